/-! all methods in one table -/
def jcode (y : Nat) : Nat → jO := (bif Nat.blt y 119 then (bif Nat.blt y 59 then (bif Nat.blt y 29 then (bif Nat.blt y 14 then (bif Nat.blt y 7 then (bif Nat.blt y 3 then (bif Nat.blt y 1 then (bif Nat.beq y 0 then jc_0 else fun _ => jstk) else (bif Nat.blt y 2 then (bif Nat.beq y 1 then jc_1 else fun _ => jstk) else (bif Nat.beq y 2 then jc_2 else fun _ => jstk))) else (bif Nat.blt y 5 then (bif Nat.blt y 4 then (bif Nat.beq y 3 then jc_3 else fun _ => jstk) else (bif Nat.beq y 4 then jc_4 else fun _ => jstk)) else (bif Nat.blt y 6 then (bif Nat.beq y 5 then jc_5 else fun _ => jstk) else (bif Nat.beq y 6 then jc_6 else fun _ => jstk)))) else (bif Nat.blt y 10 then (bif Nat.blt y 8 then (bif Nat.beq y 7 then jc_7 else fun _ => jstk) else (bif Nat.blt y 9 then (bif Nat.beq y 8 then jc_8 else fun _ => jstk) else (bif Nat.beq y 9 then jc_9 else fun _ => jstk))) else (bif Nat.blt y 12 then (bif Nat.blt y 11 then (bif Nat.beq y 10 then jc_10 else fun _ => jstk) else (bif Nat.beq y 11 then jc_11 else fun _ => jstk)) else (bif Nat.blt y 13 then (bif Nat.beq y 12 then jc_12 else fun _ => jstk) else (bif Nat.beq y 13 then jc_13 else fun _ => jstk))))) else (bif Nat.blt y 21 then (bif Nat.blt y 17 then (bif Nat.blt y 15 then (bif Nat.beq y 14 then jc_14 else fun _ => jstk) else (bif Nat.blt y 16 then (bif Nat.beq y 15 then jc_15 else fun _ => jstk) else (bif Nat.beq y 16 then jc_16 else fun _ => jstk))) else (bif Nat.blt y 19 then (bif Nat.blt y 18 then (bif Nat.beq y 17 then jc_17 else fun _ => jstk) else (bif Nat.beq y 18 then jc_18 else fun _ => jstk)) else (bif Nat.blt y 20 then (bif Nat.beq y 19 then jc_19 else fun _ => jstk) else (bif Nat.beq y 20 then jc_20 else fun _ => jstk)))) else (bif Nat.blt y 25 then (bif Nat.blt y 23 then (bif Nat.blt y 22 then (bif Nat.beq y 21 then jc_21 else fun _ => jstk) else (bif Nat.beq y 22 then jc_22 else fun _ => jstk)) else (bif Nat.blt y 24 then (bif Nat.beq y 23 then jc_23 else fun _ => jstk) else (bif Nat.beq y 24 then jc_24 else fun _ => jstk))) else (bif Nat.blt y 27 then (bif Nat.blt y 26 then (bif Nat.beq y 25 then jc_25 else fun _ => jstk) else (bif Nat.beq y 26 then jc_26 else fun _ => jstk)) else (bif Nat.blt y 28 then (bif Nat.beq y 27 then jc_27 else fun _ => jstk) else (bif Nat.beq y 28 then jc_28 else fun _ => jstk)))))) else (bif Nat.blt y 44 then (bif Nat.blt y 36 then (bif Nat.blt y 32 then (bif Nat.blt y 30 then (bif Nat.beq y 29 then jc_29 else fun _ => jstk) else (bif Nat.blt y 31 then (bif Nat.beq y 30 then jc_30 else fun _ => jstk) else (bif Nat.beq y 31 then jc_31 else fun _ => jstk))) else (bif Nat.blt y 34 then (bif Nat.blt y 33 then (bif Nat.beq y 32 then jc_32 else fun _ => jstk) else (bif Nat.beq y 33 then jc_33 else fun _ => jstk)) else (bif Nat.blt y 35 then (bif Nat.beq y 34 then jc_34 else fun _ => jstk) else (bif Nat.beq y 35 then jc_35 else fun _ => jstk)))) else (bif Nat.blt y 40 then (bif Nat.blt y 38 then (bif Nat.blt y 37 then (bif Nat.beq y 36 then jc_36 else fun _ => jstk) else (bif Nat.beq y 37 then jc_37 else fun _ => jstk)) else (bif Nat.blt y 39 then (bif Nat.beq y 38 then jc_38 else fun _ => jstk) else (bif Nat.beq y 39 then jc_39 else fun _ => jstk))) else (bif Nat.blt y 42 then (bif Nat.blt y 41 then (bif Nat.beq y 40 then jc_40 else fun _ => jstk) else (bif Nat.beq y 41 then jc_41 else fun _ => jstk)) else (bif Nat.blt y 43 then (bif Nat.beq y 42 then jc_42 else fun _ => jstk) else (bif Nat.beq y 43 then jc_43 else fun _ => jstk))))) else (bif Nat.blt y 51 then (bif Nat.blt y 47 then (bif Nat.blt y 45 then (bif Nat.beq y 44 then jc_44 else fun _ => jstk) else (bif Nat.blt y 46 then (bif Nat.beq y 45 then jc_45 else fun _ => jstk) else (bif Nat.beq y 46 then jc_46 else fun _ => jstk))) else (bif Nat.blt y 49 then (bif Nat.blt y 48 then (bif Nat.beq y 47 then jc_47 else fun _ => jstk) else (bif Nat.beq y 48 then jc_48 else fun _ => jstk)) else (bif Nat.blt y 50 then (bif Nat.beq y 49 then jc_49 else fun _ => jstk) else (bif Nat.beq y 50 then jc_50 else fun _ => jstk)))) else (bif Nat.blt y 55 then (bif Nat.blt y 53 then (bif Nat.blt y 52 then (bif Nat.beq y 51 then jc_51 else fun _ => jstk) else (bif Nat.beq y 52 then jc_52 else fun _ => jstk)) else (bif Nat.blt y 54 then (bif Nat.beq y 53 then jc_53 else fun _ => jstk) else (bif Nat.beq y 54 then jc_54 else fun _ => jstk))) else (bif Nat.blt y 57 then (bif Nat.blt y 56 then (bif Nat.beq y 55 then jc_55 else fun _ => jstk) else (bif Nat.beq y 56 then jc_56 else fun _ => jstk)) else (bif Nat.blt y 58 then (bif Nat.beq y 57 then jc_57 else fun _ => jstk) else (bif Nat.beq y 58 then jc_58 else fun _ => jstk))))))) else (bif Nat.blt y 89 then (bif Nat.blt y 74 then (bif Nat.blt y 66 then (bif Nat.blt y 62 then (bif Nat.blt y 60 then (bif Nat.beq y 59 then jc_59 else fun _ => jstk) else (bif Nat.blt y 61 then (bif Nat.beq y 60 then jc_60 else fun _ => jstk) else (bif Nat.beq y 61 then jc_61 else fun _ => jstk))) else (bif Nat.blt y 64 then (bif Nat.blt y 63 then (bif Nat.beq y 62 then jc_62 else fun _ => jstk) else (bif Nat.beq y 63 then jc_63 else fun _ => jstk)) else (bif Nat.blt y 65 then (bif Nat.beq y 64 then jc_64 else fun _ => jstk) else (bif Nat.beq y 65 then jc_65 else fun _ => jstk)))) else (bif Nat.blt y 70 then (bif Nat.blt y 68 then (bif Nat.blt y 67 then (bif Nat.beq y 66 then jc_66 else fun _ => jstk) else (bif Nat.beq y 67 then jc_67 else fun _ => jstk)) else (bif Nat.blt y 69 then (bif Nat.beq y 68 then jc_68 else fun _ => jstk) else (bif Nat.beq y 69 then jc_69 else fun _ => jstk))) else (bif Nat.blt y 72 then (bif Nat.blt y 71 then (bif Nat.beq y 70 then jc_70 else fun _ => jstk) else (bif Nat.beq y 71 then jc_71 else fun _ => jstk)) else (bif Nat.blt y 73 then (bif Nat.beq y 72 then jc_72 else fun _ => jstk) else (bif Nat.beq y 73 then jc_73 else fun _ => jstk))))) else (bif Nat.blt y 81 then (bif Nat.blt y 77 then (bif Nat.blt y 75 then (bif Nat.beq y 74 then jc_74 else fun _ => jstk) else (bif Nat.blt y 76 then (bif Nat.beq y 75 then jc_75 else fun _ => jstk) else (bif Nat.beq y 76 then jc_76 else fun _ => jstk))) else (bif Nat.blt y 79 then (bif Nat.blt y 78 then (bif Nat.beq y 77 then jc_77 else fun _ => jstk) else (bif Nat.beq y 78 then jc_78 else fun _ => jstk)) else (bif Nat.blt y 80 then (bif Nat.beq y 79 then jc_79 else fun _ => jstk) else (bif Nat.beq y 80 then jc_80 else fun _ => jstk)))) else (bif Nat.blt y 85 then (bif Nat.blt y 83 then (bif Nat.blt y 82 then (bif Nat.beq y 81 then jc_81 else fun _ => jstk) else (bif Nat.beq y 82 then jc_82 else fun _ => jstk)) else (bif Nat.blt y 84 then (bif Nat.beq y 83 then jc_83 else fun _ => jstk) else (bif Nat.beq y 84 then jc_84 else fun _ => jstk))) else (bif Nat.blt y 87 then (bif Nat.blt y 86 then (bif Nat.beq y 85 then jc_85 else fun _ => jstk) else (bif Nat.beq y 86 then jc_86 else fun _ => jstk)) else (bif Nat.blt y 88 then (bif Nat.beq y 87 then jc_87 else fun _ => jstk) else (bif Nat.beq y 88 then jc_88 else fun _ => jstk)))))) else (bif Nat.blt y 104 then (bif Nat.blt y 96 then (bif Nat.blt y 92 then (bif Nat.blt y 90 then (bif Nat.beq y 89 then jc_89 else fun _ => jstk) else (bif Nat.blt y 91 then (bif Nat.beq y 90 then jc_90 else fun _ => jstk) else (bif Nat.beq y 91 then jc_91 else fun _ => jstk))) else (bif Nat.blt y 94 then (bif Nat.blt y 93 then (bif Nat.beq y 92 then jc_92 else fun _ => jstk) else (bif Nat.beq y 93 then jc_93 else fun _ => jstk)) else (bif Nat.blt y 95 then (bif Nat.beq y 94 then jc_94 else fun _ => jstk) else (bif Nat.beq y 95 then jc_95 else fun _ => jstk)))) else (bif Nat.blt y 100 then (bif Nat.blt y 98 then (bif Nat.blt y 97 then (bif Nat.beq y 96 then jc_96 else fun _ => jstk) else (bif Nat.beq y 97 then jc_97 else fun _ => jstk)) else (bif Nat.blt y 99 then (bif Nat.beq y 98 then jc_98 else fun _ => jstk) else (bif Nat.beq y 99 then jc_99 else fun _ => jstk))) else (bif Nat.blt y 102 then (bif Nat.blt y 101 then (bif Nat.beq y 100 then jc_100 else fun _ => jstk) else (bif Nat.beq y 101 then jc_101 else fun _ => jstk)) else (bif Nat.blt y 103 then (bif Nat.beq y 102 then jc_102 else fun _ => jstk) else (bif Nat.beq y 103 then jc_103 else fun _ => jstk))))) else (bif Nat.blt y 111 then (bif Nat.blt y 107 then (bif Nat.blt y 105 then (bif Nat.beq y 104 then jc_104 else fun _ => jstk) else (bif Nat.blt y 106 then (bif Nat.beq y 105 then jc_105 else fun _ => jstk) else (bif Nat.beq y 106 then jc_106 else fun _ => jstk))) else (bif Nat.blt y 109 then (bif Nat.blt y 108 then (bif Nat.beq y 107 then jc_107 else fun _ => jstk) else (bif Nat.beq y 108 then jc_108 else fun _ => jstk)) else (bif Nat.blt y 110 then (bif Nat.beq y 109 then jc_109 else fun _ => jstk) else (bif Nat.beq y 110 then jc_110 else fun _ => jstk)))) else (bif Nat.blt y 115 then (bif Nat.blt y 113 then (bif Nat.blt y 112 then (bif Nat.beq y 111 then jc_111 else fun _ => jstk) else (bif Nat.beq y 112 then jc_112 else fun _ => jstk)) else (bif Nat.blt y 114 then (bif Nat.beq y 113 then jc_113 else fun _ => jstk) else (bif Nat.beq y 114 then jc_114 else fun _ => jstk))) else (bif Nat.blt y 117 then (bif Nat.blt y 116 then (bif Nat.beq y 115 then jc_115 else fun _ => jstk) else (bif Nat.beq y 116 then jc_116 else fun _ => jstk)) else (bif Nat.blt y 118 then (bif Nat.beq y 117 then jc_117 else fun _ => jstk) else (bif Nat.beq y 118 then jc_118 else fun _ => jstk)))))))) else (bif Nat.blt y 236 then (bif Nat.blt y 206 then (bif Nat.blt y 134 then (bif Nat.blt y 126 then (bif Nat.blt y 122 then (bif Nat.blt y 120 then (bif Nat.beq y 119 then jc_119 else fun _ => jstk) else (bif Nat.blt y 121 then (bif Nat.beq y 120 then jc_120 else fun _ => jstk) else (bif Nat.beq y 121 then jc_121 else fun _ => jstk))) else (bif Nat.blt y 124 then (bif Nat.blt y 123 then (bif Nat.beq y 122 then jc_122 else fun _ => jstk) else (bif Nat.beq y 123 then jc_123 else fun _ => jstk)) else (bif Nat.blt y 125 then (bif Nat.beq y 124 then jc_124 else fun _ => jstk) else (bif Nat.beq y 125 then jc_125 else fun _ => jstk)))) else (bif Nat.blt y 130 then (bif Nat.blt y 128 then (bif Nat.blt y 127 then (bif Nat.beq y 126 then jc_126 else fun _ => jstk) else (bif Nat.beq y 127 then jc_127 else fun _ => jstk)) else (bif Nat.blt y 129 then (bif Nat.beq y 128 then jc_128 else fun _ => jstk) else (bif Nat.beq y 129 then jc_129 else fun _ => jstk))) else (bif Nat.blt y 132 then (bif Nat.blt y 131 then (bif Nat.beq y 130 then jc_130 else fun _ => jstk) else (bif Nat.beq y 131 then jc_131 else fun _ => jstk)) else (bif Nat.blt y 133 then (bif Nat.beq y 132 then jc_132 else fun _ => jstk) else (bif Nat.beq y 133 then jc_133 else fun _ => jstk))))) else (bif Nat.blt y 141 then (bif Nat.blt y 137 then (bif Nat.blt y 135 then (bif Nat.beq y 134 then jc_134 else fun _ => jstk) else (bif Nat.blt y 136 then (bif Nat.beq y 135 then jc_135 else fun _ => jstk) else (bif Nat.beq y 136 then jc_136 else fun _ => jstk))) else (bif Nat.blt y 139 then (bif Nat.blt y 138 then (bif Nat.beq y 137 then jc_137 else fun _ => jstk) else (bif Nat.beq y 138 then jc_138 else fun _ => jstk)) else (bif Nat.blt y 140 then (bif Nat.beq y 139 then jc_139 else fun _ => jstk) else (bif Nat.beq y 140 then jc_140 else fun _ => jstk)))) else (bif Nat.blt y 202 then (bif Nat.blt y 200 then (bif Nat.blt y 142 then (bif Nat.beq y 141 then jc_141 else fun _ => jstk) else (bif Nat.beq y 142 then jc_142 else fun _ => jstk)) else (bif Nat.blt y 201 then (bif Nat.beq y 200 then jc_200 else fun _ => jstk) else (bif Nat.beq y 201 then jc_201 else fun _ => jstk))) else (bif Nat.blt y 204 then (bif Nat.blt y 203 then (bif Nat.beq y 202 then jc_202 else fun _ => jstk) else (bif Nat.beq y 203 then jc_203 else fun _ => jstk)) else (bif Nat.blt y 205 then (bif Nat.beq y 204 then jc_204 else fun _ => jstk) else (bif Nat.beq y 205 then jc_205 else fun _ => jstk)))))) else (bif Nat.blt y 221 then (bif Nat.blt y 213 then (bif Nat.blt y 209 then (bif Nat.blt y 207 then (bif Nat.beq y 206 then jc_206 else fun _ => jstk) else (bif Nat.blt y 208 then (bif Nat.beq y 207 then jc_207 else fun _ => jstk) else (bif Nat.beq y 208 then jc_208 else fun _ => jstk))) else (bif Nat.blt y 211 then (bif Nat.blt y 210 then (bif Nat.beq y 209 then jc_209 else fun _ => jstk) else (bif Nat.beq y 210 then jc_210 else fun _ => jstk)) else (bif Nat.blt y 212 then (bif Nat.beq y 211 then jc_211 else fun _ => jstk) else (bif Nat.beq y 212 then jc_212 else fun _ => jstk)))) else (bif Nat.blt y 217 then (bif Nat.blt y 215 then (bif Nat.blt y 214 then (bif Nat.beq y 213 then jc_213 else fun _ => jstk) else (bif Nat.beq y 214 then jc_214 else fun _ => jstk)) else (bif Nat.blt y 216 then (bif Nat.beq y 215 then jc_215 else fun _ => jstk) else (bif Nat.beq y 216 then jc_216 else fun _ => jstk))) else (bif Nat.blt y 219 then (bif Nat.blt y 218 then (bif Nat.beq y 217 then jc_217 else fun _ => jstk) else (bif Nat.beq y 218 then jc_218 else fun _ => jstk)) else (bif Nat.blt y 220 then (bif Nat.beq y 219 then jc_219 else fun _ => jstk) else (bif Nat.beq y 220 then jc_220 else fun _ => jstk))))) else (bif Nat.blt y 228 then (bif Nat.blt y 224 then (bif Nat.blt y 222 then (bif Nat.beq y 221 then jc_221 else fun _ => jstk) else (bif Nat.blt y 223 then (bif Nat.beq y 222 then jc_222 else fun _ => jstk) else (bif Nat.beq y 223 then jc_223 else fun _ => jstk))) else (bif Nat.blt y 226 then (bif Nat.blt y 225 then (bif Nat.beq y 224 then jc_224 else fun _ => jstk) else (bif Nat.beq y 225 then jc_225 else fun _ => jstk)) else (bif Nat.blt y 227 then (bif Nat.beq y 226 then jc_226 else fun _ => jstk) else (bif Nat.beq y 227 then jc_227 else fun _ => jstk)))) else (bif Nat.blt y 232 then (bif Nat.blt y 230 then (bif Nat.blt y 229 then (bif Nat.beq y 228 then jc_228 else fun _ => jstk) else (bif Nat.beq y 229 then jc_229 else fun _ => jstk)) else (bif Nat.blt y 231 then (bif Nat.beq y 230 then jc_230 else fun _ => jstk) else (bif Nat.beq y 231 then jc_231 else fun _ => jstk))) else (bif Nat.blt y 234 then (bif Nat.blt y 233 then (bif Nat.beq y 232 then jc_232 else fun _ => jstk) else (bif Nat.beq y 233 then jc_233 else fun _ => jstk)) else (bif Nat.blt y 235 then (bif Nat.beq y 234 then jc_234 else fun _ => jstk) else (bif Nat.beq y 235 then jc_235 else fun _ => jstk))))))) else (bif Nat.blt y 266 then (bif Nat.blt y 251 then (bif Nat.blt y 243 then (bif Nat.blt y 239 then (bif Nat.blt y 237 then (bif Nat.beq y 236 then jc_236 else fun _ => jstk) else (bif Nat.blt y 238 then (bif Nat.beq y 237 then jc_237 else fun _ => jstk) else (bif Nat.beq y 238 then jc_238 else fun _ => jstk))) else (bif Nat.blt y 241 then (bif Nat.blt y 240 then (bif Nat.beq y 239 then jc_239 else fun _ => jstk) else (bif Nat.beq y 240 then jc_240 else fun _ => jstk)) else (bif Nat.blt y 242 then (bif Nat.beq y 241 then jc_241 else fun _ => jstk) else (bif Nat.beq y 242 then jc_242 else fun _ => jstk)))) else (bif Nat.blt y 247 then (bif Nat.blt y 245 then (bif Nat.blt y 244 then (bif Nat.beq y 243 then jc_243 else fun _ => jstk) else (bif Nat.beq y 244 then jc_244 else fun _ => jstk)) else (bif Nat.blt y 246 then (bif Nat.beq y 245 then jc_245 else fun _ => jstk) else (bif Nat.beq y 246 then jc_246 else fun _ => jstk))) else (bif Nat.blt y 249 then (bif Nat.blt y 248 then (bif Nat.beq y 247 then jc_247 else fun _ => jstk) else (bif Nat.beq y 248 then jc_248 else fun _ => jstk)) else (bif Nat.blt y 250 then (bif Nat.beq y 249 then jc_249 else fun _ => jstk) else (bif Nat.beq y 250 then jc_250 else fun _ => jstk))))) else (bif Nat.blt y 258 then (bif Nat.blt y 254 then (bif Nat.blt y 252 then (bif Nat.beq y 251 then jc_251 else fun _ => jstk) else (bif Nat.blt y 253 then (bif Nat.beq y 252 then jc_252 else fun _ => jstk) else (bif Nat.beq y 253 then jc_253 else fun _ => jstk))) else (bif Nat.blt y 256 then (bif Nat.blt y 255 then (bif Nat.beq y 254 then jc_254 else fun _ => jstk) else (bif Nat.beq y 255 then jc_255 else fun _ => jstk)) else (bif Nat.blt y 257 then (bif Nat.beq y 256 then jc_256 else fun _ => jstk) else (bif Nat.beq y 257 then jc_257 else fun _ => jstk)))) else (bif Nat.blt y 262 then (bif Nat.blt y 260 then (bif Nat.blt y 259 then (bif Nat.beq y 258 then jc_258 else fun _ => jstk) else (bif Nat.beq y 259 then jc_259 else fun _ => jstk)) else (bif Nat.blt y 261 then (bif Nat.beq y 260 then jc_260 else fun _ => jstk) else (bif Nat.beq y 261 then jc_261 else fun _ => jstk))) else (bif Nat.blt y 264 then (bif Nat.blt y 263 then (bif Nat.beq y 262 then jc_262 else fun _ => jstk) else (bif Nat.beq y 263 then jc_263 else fun _ => jstk)) else (bif Nat.blt y 265 then (bif Nat.beq y 264 then jc_264 else fun _ => jstk) else (bif Nat.beq y 265 then jc_265 else fun _ => jstk)))))) else (bif Nat.blt y 281 then (bif Nat.blt y 273 then (bif Nat.blt y 269 then (bif Nat.blt y 267 then (bif Nat.beq y 266 then jc_266 else fun _ => jstk) else (bif Nat.blt y 268 then (bif Nat.beq y 267 then jc_267 else fun _ => jstk) else (bif Nat.beq y 268 then jc_268 else fun _ => jstk))) else (bif Nat.blt y 271 then (bif Nat.blt y 270 then (bif Nat.beq y 269 then jc_269 else fun _ => jstk) else (bif Nat.beq y 270 then jc_270 else fun _ => jstk)) else (bif Nat.blt y 272 then (bif Nat.beq y 271 then jc_271 else fun _ => jstk) else (bif Nat.beq y 272 then jc_272 else fun _ => jstk)))) else (bif Nat.blt y 277 then (bif Nat.blt y 275 then (bif Nat.blt y 274 then (bif Nat.beq y 273 then jc_273 else fun _ => jstk) else (bif Nat.beq y 274 then jc_274 else fun _ => jstk)) else (bif Nat.blt y 276 then (bif Nat.beq y 275 then jc_275 else fun _ => jstk) else (bif Nat.beq y 276 then jc_276 else fun _ => jstk))) else (bif Nat.blt y 279 then (bif Nat.blt y 278 then (bif Nat.beq y 277 then jc_277 else fun _ => jstk) else (bif Nat.beq y 278 then jc_278 else fun _ => jstk)) else (bif Nat.blt y 280 then (bif Nat.beq y 279 then jc_279 else fun _ => jstk) else (bif Nat.beq y 280 then jc_280 else fun _ => jstk))))) else (bif Nat.blt y 301 then (bif Nat.blt y 284 then (bif Nat.blt y 282 then (bif Nat.beq y 281 then jc_281 else fun _ => jstk) else (bif Nat.blt y 283 then (bif Nat.beq y 282 then jc_282 else fun _ => jstk) else (bif Nat.beq y 283 then jc_283 else fun _ => jstk))) else (bif Nat.blt y 286 then (bif Nat.blt y 285 then (bif Nat.beq y 284 then jc_284 else fun _ => jstk) else (bif Nat.beq y 285 then jc_285 else fun _ => jstk)) else (bif Nat.blt y 300 then (bif Nat.beq y 286 then jc_286 else fun _ => jstk) else (bif Nat.beq y 300 then jc_300 else fun _ => jstk)))) else (bif Nat.blt y 305 then (bif Nat.blt y 303 then (bif Nat.blt y 302 then (bif Nat.beq y 301 then jc_301 else fun _ => jstk) else (bif Nat.beq y 302 then jc_302 else fun _ => jstk)) else (bif Nat.blt y 304 then (bif Nat.beq y 303 then jc_303 else fun _ => jstk) else (bif Nat.beq y 304 then jc_304 else fun _ => jstk))) else (bif Nat.blt y 307 then (bif Nat.blt y 306 then (bif Nat.beq y 305 then jc_305 else fun _ => jstk) else (bif Nat.beq y 306 then jc_306 else fun _ => jstk)) else (bif Nat.blt y 400 then (bif Nat.beq y 307 then jc_307 else fun _ => jstk) else (bif Nat.beq y 400 then jc_400 else fun _ => jstk)))))))))
theorem jcy_0 : jcode 0 = jc_0 := rfl
theorem jcy_1 : jcode 1 = jc_1 := rfl
theorem jcy_2 : jcode 2 = jc_2 := rfl
theorem jcy_3 : jcode 3 = jc_3 := rfl
theorem jcy_4 : jcode 4 = jc_4 := rfl
theorem jcy_5 : jcode 5 = jc_5 := rfl
theorem jcy_6 : jcode 6 = jc_6 := rfl
theorem jcy_7 : jcode 7 = jc_7 := rfl
theorem jcy_8 : jcode 8 = jc_8 := rfl
theorem jcy_9 : jcode 9 = jc_9 := rfl
theorem jcy_10 : jcode 10 = jc_10 := rfl
theorem jcy_11 : jcode 11 = jc_11 := rfl
theorem jcy_12 : jcode 12 = jc_12 := rfl
theorem jcy_13 : jcode 13 = jc_13 := rfl
theorem jcy_14 : jcode 14 = jc_14 := rfl
theorem jcy_15 : jcode 15 = jc_15 := rfl
theorem jcy_16 : jcode 16 = jc_16 := rfl
theorem jcy_17 : jcode 17 = jc_17 := rfl
theorem jcy_18 : jcode 18 = jc_18 := rfl
theorem jcy_19 : jcode 19 = jc_19 := rfl
theorem jcy_20 : jcode 20 = jc_20 := rfl
theorem jcy_21 : jcode 21 = jc_21 := rfl
theorem jcy_22 : jcode 22 = jc_22 := rfl
theorem jcy_23 : jcode 23 = jc_23 := rfl
theorem jcy_24 : jcode 24 = jc_24 := rfl
theorem jcy_25 : jcode 25 = jc_25 := rfl
theorem jcy_26 : jcode 26 = jc_26 := rfl
theorem jcy_27 : jcode 27 = jc_27 := rfl
theorem jcy_28 : jcode 28 = jc_28 := rfl
theorem jcy_29 : jcode 29 = jc_29 := rfl
theorem jcy_30 : jcode 30 = jc_30 := rfl
theorem jcy_31 : jcode 31 = jc_31 := rfl
theorem jcy_32 : jcode 32 = jc_32 := rfl
theorem jcy_33 : jcode 33 = jc_33 := rfl
theorem jcy_34 : jcode 34 = jc_34 := rfl
theorem jcy_35 : jcode 35 = jc_35 := rfl
theorem jcy_36 : jcode 36 = jc_36 := rfl
theorem jcy_37 : jcode 37 = jc_37 := rfl
theorem jcy_38 : jcode 38 = jc_38 := rfl
theorem jcy_39 : jcode 39 = jc_39 := rfl
theorem jcy_40 : jcode 40 = jc_40 := rfl
theorem jcy_41 : jcode 41 = jc_41 := rfl
theorem jcy_42 : jcode 42 = jc_42 := rfl
theorem jcy_43 : jcode 43 = jc_43 := rfl
theorem jcy_44 : jcode 44 = jc_44 := rfl
theorem jcy_45 : jcode 45 = jc_45 := rfl
theorem jcy_46 : jcode 46 = jc_46 := rfl
theorem jcy_47 : jcode 47 = jc_47 := rfl
theorem jcy_48 : jcode 48 = jc_48 := rfl
theorem jcy_49 : jcode 49 = jc_49 := rfl
theorem jcy_50 : jcode 50 = jc_50 := rfl
theorem jcy_51 : jcode 51 = jc_51 := rfl
theorem jcy_52 : jcode 52 = jc_52 := rfl
theorem jcy_53 : jcode 53 = jc_53 := rfl
theorem jcy_54 : jcode 54 = jc_54 := rfl
theorem jcy_55 : jcode 55 = jc_55 := rfl
theorem jcy_56 : jcode 56 = jc_56 := rfl
theorem jcy_57 : jcode 57 = jc_57 := rfl
theorem jcy_58 : jcode 58 = jc_58 := rfl
theorem jcy_59 : jcode 59 = jc_59 := rfl
theorem jcy_60 : jcode 60 = jc_60 := rfl
theorem jcy_61 : jcode 61 = jc_61 := rfl
theorem jcy_62 : jcode 62 = jc_62 := rfl
theorem jcy_63 : jcode 63 = jc_63 := rfl
theorem jcy_64 : jcode 64 = jc_64 := rfl
theorem jcy_65 : jcode 65 = jc_65 := rfl
theorem jcy_66 : jcode 66 = jc_66 := rfl
theorem jcy_67 : jcode 67 = jc_67 := rfl
theorem jcy_68 : jcode 68 = jc_68 := rfl
theorem jcy_69 : jcode 69 = jc_69 := rfl
theorem jcy_70 : jcode 70 = jc_70 := rfl
theorem jcy_71 : jcode 71 = jc_71 := rfl
theorem jcy_72 : jcode 72 = jc_72 := rfl
theorem jcy_73 : jcode 73 = jc_73 := rfl
theorem jcy_74 : jcode 74 = jc_74 := rfl
theorem jcy_75 : jcode 75 = jc_75 := rfl
theorem jcy_76 : jcode 76 = jc_76 := rfl
theorem jcy_77 : jcode 77 = jc_77 := rfl
theorem jcy_78 : jcode 78 = jc_78 := rfl
theorem jcy_79 : jcode 79 = jc_79 := rfl
theorem jcy_80 : jcode 80 = jc_80 := rfl
theorem jcy_81 : jcode 81 = jc_81 := rfl
theorem jcy_82 : jcode 82 = jc_82 := rfl
theorem jcy_83 : jcode 83 = jc_83 := rfl
theorem jcy_84 : jcode 84 = jc_84 := rfl
theorem jcy_85 : jcode 85 = jc_85 := rfl
theorem jcy_86 : jcode 86 = jc_86 := rfl
theorem jcy_87 : jcode 87 = jc_87 := rfl
theorem jcy_88 : jcode 88 = jc_88 := rfl
theorem jcy_89 : jcode 89 = jc_89 := rfl
theorem jcy_90 : jcode 90 = jc_90 := rfl
theorem jcy_91 : jcode 91 = jc_91 := rfl
theorem jcy_92 : jcode 92 = jc_92 := rfl
theorem jcy_93 : jcode 93 = jc_93 := rfl
theorem jcy_94 : jcode 94 = jc_94 := rfl
theorem jcy_95 : jcode 95 = jc_95 := rfl
theorem jcy_96 : jcode 96 = jc_96 := rfl
theorem jcy_97 : jcode 97 = jc_97 := rfl
theorem jcy_98 : jcode 98 = jc_98 := rfl
theorem jcy_99 : jcode 99 = jc_99 := rfl
theorem jcy_100 : jcode 100 = jc_100 := rfl
theorem jcy_101 : jcode 101 = jc_101 := rfl
theorem jcy_102 : jcode 102 = jc_102 := rfl
theorem jcy_103 : jcode 103 = jc_103 := rfl
theorem jcy_104 : jcode 104 = jc_104 := rfl
theorem jcy_105 : jcode 105 = jc_105 := rfl
theorem jcy_106 : jcode 106 = jc_106 := rfl
theorem jcy_107 : jcode 107 = jc_107 := rfl
theorem jcy_108 : jcode 108 = jc_108 := rfl
theorem jcy_109 : jcode 109 = jc_109 := rfl
theorem jcy_110 : jcode 110 = jc_110 := rfl
theorem jcy_111 : jcode 111 = jc_111 := rfl
theorem jcy_112 : jcode 112 = jc_112 := rfl
theorem jcy_113 : jcode 113 = jc_113 := rfl
theorem jcy_114 : jcode 114 = jc_114 := rfl
theorem jcy_115 : jcode 115 = jc_115 := rfl
theorem jcy_116 : jcode 116 = jc_116 := rfl
theorem jcy_117 : jcode 117 = jc_117 := rfl
theorem jcy_118 : jcode 118 = jc_118 := rfl
theorem jcy_119 : jcode 119 = jc_119 := rfl
theorem jcy_120 : jcode 120 = jc_120 := rfl
theorem jcy_121 : jcode 121 = jc_121 := rfl
theorem jcy_122 : jcode 122 = jc_122 := rfl
theorem jcy_123 : jcode 123 = jc_123 := rfl
theorem jcy_124 : jcode 124 = jc_124 := rfl
theorem jcy_125 : jcode 125 = jc_125 := rfl
theorem jcy_126 : jcode 126 = jc_126 := rfl
theorem jcy_127 : jcode 127 = jc_127 := rfl
theorem jcy_128 : jcode 128 = jc_128 := rfl
theorem jcy_129 : jcode 129 = jc_129 := rfl
theorem jcy_130 : jcode 130 = jc_130 := rfl
theorem jcy_131 : jcode 131 = jc_131 := rfl
theorem jcy_132 : jcode 132 = jc_132 := rfl
theorem jcy_133 : jcode 133 = jc_133 := rfl
theorem jcy_134 : jcode 134 = jc_134 := rfl
theorem jcy_135 : jcode 135 = jc_135 := rfl
theorem jcy_136 : jcode 136 = jc_136 := rfl
theorem jcy_137 : jcode 137 = jc_137 := rfl
theorem jcy_138 : jcode 138 = jc_138 := rfl
theorem jcy_139 : jcode 139 = jc_139 := rfl
theorem jcy_140 : jcode 140 = jc_140 := rfl
theorem jcy_141 : jcode 141 = jc_141 := rfl
theorem jcy_142 : jcode 142 = jc_142 := rfl
theorem jcy_200 : jcode 200 = jc_200 := rfl
theorem jcy_201 : jcode 201 = jc_201 := rfl
theorem jcy_202 : jcode 202 = jc_202 := rfl
theorem jcy_203 : jcode 203 = jc_203 := rfl
theorem jcy_204 : jcode 204 = jc_204 := rfl
theorem jcy_205 : jcode 205 = jc_205 := rfl
theorem jcy_206 : jcode 206 = jc_206 := rfl
theorem jcy_207 : jcode 207 = jc_207 := rfl
theorem jcy_208 : jcode 208 = jc_208 := rfl
theorem jcy_209 : jcode 209 = jc_209 := rfl
theorem jcy_210 : jcode 210 = jc_210 := rfl
theorem jcy_211 : jcode 211 = jc_211 := rfl
theorem jcy_212 : jcode 212 = jc_212 := rfl
theorem jcy_213 : jcode 213 = jc_213 := rfl
theorem jcy_214 : jcode 214 = jc_214 := rfl
theorem jcy_215 : jcode 215 = jc_215 := rfl
theorem jcy_216 : jcode 216 = jc_216 := rfl
theorem jcy_217 : jcode 217 = jc_217 := rfl
theorem jcy_218 : jcode 218 = jc_218 := rfl
theorem jcy_219 : jcode 219 = jc_219 := rfl
theorem jcy_220 : jcode 220 = jc_220 := rfl
theorem jcy_221 : jcode 221 = jc_221 := rfl
theorem jcy_222 : jcode 222 = jc_222 := rfl
theorem jcy_223 : jcode 223 = jc_223 := rfl
theorem jcy_224 : jcode 224 = jc_224 := rfl
theorem jcy_225 : jcode 225 = jc_225 := rfl
theorem jcy_226 : jcode 226 = jc_226 := rfl
theorem jcy_227 : jcode 227 = jc_227 := rfl
theorem jcy_228 : jcode 228 = jc_228 := rfl
theorem jcy_229 : jcode 229 = jc_229 := rfl
theorem jcy_230 : jcode 230 = jc_230 := rfl
theorem jcy_231 : jcode 231 = jc_231 := rfl
theorem jcy_232 : jcode 232 = jc_232 := rfl
theorem jcy_233 : jcode 233 = jc_233 := rfl
theorem jcy_234 : jcode 234 = jc_234 := rfl
theorem jcy_235 : jcode 235 = jc_235 := rfl
theorem jcy_236 : jcode 236 = jc_236 := rfl
theorem jcy_237 : jcode 237 = jc_237 := rfl
theorem jcy_238 : jcode 238 = jc_238 := rfl
theorem jcy_239 : jcode 239 = jc_239 := rfl
theorem jcy_240 : jcode 240 = jc_240 := rfl
theorem jcy_241 : jcode 241 = jc_241 := rfl
theorem jcy_242 : jcode 242 = jc_242 := rfl
theorem jcy_243 : jcode 243 = jc_243 := rfl
theorem jcy_244 : jcode 244 = jc_244 := rfl
theorem jcy_245 : jcode 245 = jc_245 := rfl
theorem jcy_246 : jcode 246 = jc_246 := rfl
theorem jcy_247 : jcode 247 = jc_247 := rfl
theorem jcy_248 : jcode 248 = jc_248 := rfl
theorem jcy_249 : jcode 249 = jc_249 := rfl
theorem jcy_250 : jcode 250 = jc_250 := rfl
theorem jcy_251 : jcode 251 = jc_251 := rfl
theorem jcy_252 : jcode 252 = jc_252 := rfl
theorem jcy_253 : jcode 253 = jc_253 := rfl
theorem jcy_254 : jcode 254 = jc_254 := rfl
theorem jcy_255 : jcode 255 = jc_255 := rfl
theorem jcy_256 : jcode 256 = jc_256 := rfl
theorem jcy_257 : jcode 257 = jc_257 := rfl
theorem jcy_258 : jcode 258 = jc_258 := rfl
theorem jcy_259 : jcode 259 = jc_259 := rfl
theorem jcy_260 : jcode 260 = jc_260 := rfl
theorem jcy_261 : jcode 261 = jc_261 := rfl
theorem jcy_262 : jcode 262 = jc_262 := rfl
theorem jcy_263 : jcode 263 = jc_263 := rfl
theorem jcy_264 : jcode 264 = jc_264 := rfl
theorem jcy_265 : jcode 265 = jc_265 := rfl
theorem jcy_266 : jcode 266 = jc_266 := rfl
theorem jcy_267 : jcode 267 = jc_267 := rfl
theorem jcy_268 : jcode 268 = jc_268 := rfl
theorem jcy_269 : jcode 269 = jc_269 := rfl
theorem jcy_270 : jcode 270 = jc_270 := rfl
theorem jcy_271 : jcode 271 = jc_271 := rfl
theorem jcy_272 : jcode 272 = jc_272 := rfl
theorem jcy_273 : jcode 273 = jc_273 := rfl
theorem jcy_274 : jcode 274 = jc_274 := rfl
theorem jcy_275 : jcode 275 = jc_275 := rfl
theorem jcy_276 : jcode 276 = jc_276 := rfl
theorem jcy_277 : jcode 277 = jc_277 := rfl
theorem jcy_278 : jcode 278 = jc_278 := rfl
theorem jcy_279 : jcode 279 = jc_279 := rfl
theorem jcy_280 : jcode 280 = jc_280 := rfl
theorem jcy_281 : jcode 281 = jc_281 := rfl
theorem jcy_282 : jcode 282 = jc_282 := rfl
theorem jcy_283 : jcode 283 = jc_283 := rfl
theorem jcy_284 : jcode 284 = jc_284 := rfl
theorem jcy_285 : jcode 285 = jc_285 := rfl
theorem jcy_286 : jcode 286 = jc_286 := rfl
theorem jcy_300 : jcode 300 = jc_300 := rfl
theorem jcy_301 : jcode 301 = jc_301 := rfl
theorem jcy_302 : jcode 302 = jc_302 := rfl
theorem jcy_303 : jcode 303 = jc_303 := rfl
theorem jcy_304 : jcode 304 = jc_304 := rfl
theorem jcy_305 : jcode 305 = jc_305 := rfl
theorem jcy_306 : jcode 306 = jc_306 := rfl
theorem jcy_307 : jcode 307 = jc_307 := rfl
theorem jcy_400 : jcode 400 = jc_400 := rfl
theorem jT_node {α : Type} {P : α → Prop} {a b : α} {z : Bool} (ha : P a) (hb : P b) : P (bif z then a else b) := by
  cases z with
  | true => exact ha
  | false => exact hb
theorem jT_leaf {α : Type} {P : Nat → α → Prop} {y N : Nat} {f g : α} (h : P N f) (h0 : P y g) : P y (bif Nat.beq y N then f else g) := by
  cases hb : Nat.beq y N with
  | true => rw [jbeq hb]; exact h
  | false => exact h0
def jPs (y : Nat) (f : Nat → jO) : Prop := ∀ pc, jSh (jwr y) (f pc)
def jPo (l : Launch) (E : jE) (y : Nat) (f : Nat → jO) : Prop := ∀ pc, jOk l E (jby y) (jnm y).cls (jml y) (jrt y) (jrm y) pc (f pc)
theorem jPs0 (y : Nat) : jPs y (fun _ => jstk) := fun _ => sh_stk
theorem jPo0 (l : Launch) (E : jE) (y : Nat) : jPo l E y (fun _ => jstk) := fun _ => ok_stk
theorem jPo_0 (l : Launch) (E : jE) : jPo l E 0 jc_0 := fun pc => okc_0 pc
theorem jPo_1 (l : Launch) (E : jE) : jPo l E 1 jc_1 := fun pc => okc_1 pc
theorem jPo_2 (l : Launch) (E : jE) : jPo l E 2 jc_2 := fun pc => okc_2 pc
theorem jPo_3 (l : Launch) (E : jE) : jPo l E 3 jc_3 := fun pc => okc_3 pc
theorem jPo_4 (l : Launch) (E : jE) : jPo l E 4 jc_4 := fun pc => okc_4 pc
theorem jPo_5 (l : Launch) (E : jE) : jPo l E 5 jc_5 := fun pc => okc_5 pc
theorem jPo_6 (l : Launch) (E : jE) : jPo l E 6 jc_6 := fun pc => okc_6 pc
theorem jPo_7 (l : Launch) (E : jE) : jPo l E 7 jc_7 := fun pc => okc_7 pc
theorem jPo_8 (l : Launch) (E : jE) : jPo l E 8 jc_8 := fun pc => okc_8 pc
theorem jPo_9 (l : Launch) (E : jE) : jPo l E 9 jc_9 := fun pc => okc_9 pc
theorem jPo_10 (l : Launch) (E : jE) : jPo l E 10 jc_10 := fun pc => okc_10 pc
theorem jPo_11 (l : Launch) (E : jE) : jPo l E 11 jc_11 := fun pc => okc_11 pc
theorem jPo_12 (l : Launch) (E : jE) : jPo l E 12 jc_12 := fun pc => okc_12 pc
theorem jPo_13 (l : Launch) (E : jE) : jPo l E 13 jc_13 := fun pc => okc_13 pc
theorem jPo_14 (l : Launch) (E : jE) : jPo l E 14 jc_14 := fun pc => okc_14 pc
theorem jPo_15 (l : Launch) (E : jE) : jPo l E 15 jc_15 := fun pc => okc_15 pc
theorem jPo_16 (l : Launch) (E : jE) : jPo l E 16 jc_16 := fun pc => okc_16 pc
theorem jPo_17 (l : Launch) (E : jE) : jPo l E 17 jc_17 := fun pc => okc_17 pc
theorem jPo_18 (l : Launch) (E : jE) : jPo l E 18 jc_18 := fun pc => okc_18 pc
theorem jPo_19 (l : Launch) (E : jE) : jPo l E 19 jc_19 := fun pc => okc_19 pc
theorem jPo_20 (l : Launch) (E : jE) : jPo l E 20 jc_20 := fun pc => okc_20 pc
theorem jPo_21 (l : Launch) (E : jE) : jPo l E 21 jc_21 := fun pc => okc_21 pc
theorem jPo_22 (l : Launch) (E : jE) : jPo l E 22 jc_22 := fun pc => okc_22 pc
theorem jPo_23 (l : Launch) (E : jE) : jPo l E 23 jc_23 := fun pc => okc_23 pc
theorem jPo_24 (l : Launch) (E : jE) : jPo l E 24 jc_24 := fun pc => okc_24 pc
theorem jPo_25 (l : Launch) (E : jE) : jPo l E 25 jc_25 := fun pc => okc_25 pc
theorem jPo_26 (l : Launch) (E : jE) : jPo l E 26 jc_26 := fun pc => okc_26 pc
theorem jPo_27 (l : Launch) (E : jE) : jPo l E 27 jc_27 := fun pc => okc_27 pc
theorem jPo_28 (l : Launch) (E : jE) : jPo l E 28 jc_28 := fun pc => okc_28 pc
theorem jPo_29 (l : Launch) (E : jE) : jPo l E 29 jc_29 := fun pc => okc_29 pc
theorem jPo_30 (l : Launch) (E : jE) : jPo l E 30 jc_30 := fun pc => okc_30 pc
theorem jPo_31 (l : Launch) (E : jE) : jPo l E 31 jc_31 := fun pc => okc_31 pc
theorem jPo_32 (l : Launch) (E : jE) : jPo l E 32 jc_32 := fun pc => okc_32 pc
theorem jPo_33 (l : Launch) (E : jE) : jPo l E 33 jc_33 := fun pc => okc_33 pc
theorem jPo_34 (l : Launch) (E : jE) : jPo l E 34 jc_34 := fun pc => okc_34 pc
theorem jPo_35 (l : Launch) (E : jE) : jPo l E 35 jc_35 := fun pc => okc_35 pc
theorem jPo_36 (l : Launch) (E : jE) : jPo l E 36 jc_36 := fun pc => okc_36 pc
theorem jPo_37 (l : Launch) (E : jE) : jPo l E 37 jc_37 := fun pc => okc_37 pc
theorem jPo_38 (l : Launch) (E : jE) : jPo l E 38 jc_38 := fun pc => okc_38 pc
theorem jPo_39 (l : Launch) (E : jE) : jPo l E 39 jc_39 := fun pc => okc_39 pc
theorem jPo_40 (l : Launch) (E : jE) : jPo l E 40 jc_40 := fun pc => okc_40 pc
theorem jPo_41 (l : Launch) (E : jE) : jPo l E 41 jc_41 := fun pc => okc_41 pc
theorem jPo_42 (l : Launch) (E : jE) : jPo l E 42 jc_42 := fun pc => okc_42 pc
theorem jPo_43 (l : Launch) (E : jE) : jPo l E 43 jc_43 := fun pc => okc_43 pc
theorem jPo_44 (l : Launch) (E : jE) : jPo l E 44 jc_44 := fun pc => okc_44 pc
theorem jPo_45 (l : Launch) (E : jE) : jPo l E 45 jc_45 := fun pc => okc_45 pc
theorem jPo_46 (l : Launch) (E : jE) : jPo l E 46 jc_46 := fun pc => okc_46 pc
theorem jPo_47 (l : Launch) (E : jE) : jPo l E 47 jc_47 := fun pc => okc_47 pc
theorem jPo_48 (l : Launch) (E : jE) : jPo l E 48 jc_48 := fun pc => okc_48 pc
theorem jPo_49 (l : Launch) (E : jE) : jPo l E 49 jc_49 := fun pc => okc_49 pc
theorem jPo_50 (l : Launch) (E : jE) : jPo l E 50 jc_50 := fun pc => okc_50 pc
theorem jPo_51 (l : Launch) (E : jE) : jPo l E 51 jc_51 := fun pc => okc_51 pc
theorem jPo_52 (l : Launch) (E : jE) : jPo l E 52 jc_52 := fun pc => okc_52 pc
theorem jPo_53 (l : Launch) (E : jE) : jPo l E 53 jc_53 := fun pc => okc_53 pc
theorem jPo_54 (l : Launch) (E : jE) : jPo l E 54 jc_54 := fun pc => okc_54 pc
theorem jPo_55 (l : Launch) (E : jE) : jPo l E 55 jc_55 := fun pc => okc_55 pc
theorem jPo_56 (l : Launch) (E : jE) : jPo l E 56 jc_56 := fun pc => okc_56 pc
theorem jPo_57 (l : Launch) (E : jE) : jPo l E 57 jc_57 := fun pc => okc_57 pc
theorem jPo_58 (l : Launch) (E : jE) : jPo l E 58 jc_58 := fun pc => okc_58 pc
theorem jPo_59 (l : Launch) (E : jE) : jPo l E 59 jc_59 := fun pc => okc_59 pc
theorem jPo_60 (l : Launch) (E : jE) : jPo l E 60 jc_60 := fun pc => okc_60 pc
theorem jPo_61 (l : Launch) (E : jE) : jPo l E 61 jc_61 := fun pc => okc_61 pc
theorem jPo_62 (l : Launch) (E : jE) : jPo l E 62 jc_62 := fun pc => okc_62 pc
theorem jPo_63 (l : Launch) (E : jE) : jPo l E 63 jc_63 := fun pc => okc_63 pc
theorem jPo_64 (l : Launch) (E : jE) : jPo l E 64 jc_64 := fun pc => okc_64 pc
theorem jPo_65 (l : Launch) (E : jE) : jPo l E 65 jc_65 := fun pc => okc_65 pc
theorem jPo_66 (l : Launch) (E : jE) : jPo l E 66 jc_66 := fun pc => okc_66 pc
theorem jPo_67 (l : Launch) (E : jE) : jPo l E 67 jc_67 := fun pc => okc_67 pc
theorem jPo_68 (l : Launch) (E : jE) : jPo l E 68 jc_68 := fun pc => okc_68 pc
theorem jPo_69 (l : Launch) (E : jE) : jPo l E 69 jc_69 := fun pc => okc_69 pc
theorem jPo_70 (l : Launch) (E : jE) : jPo l E 70 jc_70 := fun pc => okc_70 pc
theorem jPo_71 (l : Launch) (E : jE) : jPo l E 71 jc_71 := fun pc => okc_71 pc
theorem jPo_72 (l : Launch) (E : jE) : jPo l E 72 jc_72 := fun pc => okc_72 pc
theorem jPo_73 (l : Launch) (E : jE) : jPo l E 73 jc_73 := fun pc => okc_73 pc
theorem jPo_74 (l : Launch) (E : jE) : jPo l E 74 jc_74 := fun pc => okc_74 pc
theorem jPo_75 (l : Launch) (E : jE) : jPo l E 75 jc_75 := fun pc => okc_75 pc
theorem jPo_76 (l : Launch) (E : jE) : jPo l E 76 jc_76 := fun pc => okc_76 pc
theorem jPo_77 (l : Launch) (E : jE) : jPo l E 77 jc_77 := fun pc => okc_77 pc
theorem jPo_78 (l : Launch) (E : jE) : jPo l E 78 jc_78 := fun pc => okc_78 pc
theorem jPo_79 (l : Launch) (E : jE) : jPo l E 79 jc_79 := fun pc => okc_79 pc
theorem jPo_80 (l : Launch) (E : jE) : jPo l E 80 jc_80 := fun pc => okc_80 pc
theorem jPo_81 (l : Launch) (E : jE) : jPo l E 81 jc_81 := fun pc => okc_81 pc
theorem jPo_82 (l : Launch) (E : jE) : jPo l E 82 jc_82 := fun pc => okc_82 pc
theorem jPo_83 (l : Launch) (E : jE) : jPo l E 83 jc_83 := fun pc => okc_83 pc
theorem jPo_84 (l : Launch) (E : jE) : jPo l E 84 jc_84 := fun pc => okc_84 pc
theorem jPo_85 (l : Launch) (E : jE) : jPo l E 85 jc_85 := fun pc => okc_85 pc
theorem jPo_86 (l : Launch) (E : jE) : jPo l E 86 jc_86 := fun pc => okc_86 pc
theorem jPo_87 (l : Launch) (E : jE) : jPo l E 87 jc_87 := fun pc => okc_87 pc
theorem jPo_88 (l : Launch) (E : jE) : jPo l E 88 jc_88 := fun pc => okc_88 pc
theorem jPo_89 (l : Launch) (E : jE) : jPo l E 89 jc_89 := fun pc => okc_89 pc
theorem jPo_90 (l : Launch) (E : jE) : jPo l E 90 jc_90 := fun pc => okc_90 pc
theorem jPo_91 (l : Launch) (E : jE) : jPo l E 91 jc_91 := fun pc => okc_91 pc
theorem jPo_92 (l : Launch) (E : jE) : jPo l E 92 jc_92 := fun pc => okc_92 pc
theorem jPo_93 (l : Launch) (E : jE) : jPo l E 93 jc_93 := fun pc => okc_93 pc
theorem jPo_94 (l : Launch) (E : jE) : jPo l E 94 jc_94 := fun pc => okc_94 pc
theorem jPo_95 (l : Launch) (E : jE) : jPo l E 95 jc_95 := fun pc => okc_95 pc
theorem jPo_96 (l : Launch) (E : jE) : jPo l E 96 jc_96 := fun pc => okc_96 pc
theorem jPo_97 (l : Launch) (E : jE) : jPo l E 97 jc_97 := fun pc => okc_97 pc
theorem jPo_98 (l : Launch) (E : jE) : jPo l E 98 jc_98 := fun pc => okc_98 pc
theorem jPo_99 (l : Launch) (E : jE) : jPo l E 99 jc_99 := fun pc => okc_99 pc
theorem jPo_100 (l : Launch) (E : jE) : jPo l E 100 jc_100 := fun pc => okc_100 pc
theorem jPo_101 (l : Launch) (E : jE) : jPo l E 101 jc_101 := fun pc => okc_101 pc
theorem jPo_102 (l : Launch) (E : jE) : jPo l E 102 jc_102 := fun pc => okc_102 pc
theorem jPo_103 (l : Launch) (E : jE) : jPo l E 103 jc_103 := fun pc => okc_103 pc
theorem jPo_104 (l : Launch) (E : jE) : jPo l E 104 jc_104 := fun pc => okc_104 pc
theorem jPo_105 (l : Launch) (E : jE) : jPo l E 105 jc_105 := fun pc => okc_105 pc
theorem jPo_106 (l : Launch) (E : jE) : jPo l E 106 jc_106 := fun pc => okc_106 pc
theorem jPo_107 (l : Launch) (E : jE) : jPo l E 107 jc_107 := fun pc => okc_107 pc
theorem jPo_108 (l : Launch) (E : jE) : jPo l E 108 jc_108 := fun pc => okc_108 pc
theorem jPo_109 (l : Launch) (E : jE) : jPo l E 109 jc_109 := fun pc => okc_109 pc
theorem jPo_110 (l : Launch) (E : jE) : jPo l E 110 jc_110 := fun pc => okc_110 pc
theorem jPo_111 (l : Launch) (E : jE) : jPo l E 111 jc_111 := fun pc => okc_111 pc
theorem jPo_112 (l : Launch) (E : jE) : jPo l E 112 jc_112 := fun pc => okc_112 pc
theorem jPo_113 (l : Launch) (E : jE) : jPo l E 113 jc_113 := fun pc => okc_113 pc
theorem jPo_114 (l : Launch) (E : jE) : jPo l E 114 jc_114 := fun pc => okc_114 pc
theorem jPo_115 (l : Launch) (E : jE) : jPo l E 115 jc_115 := fun pc => okc_115 pc
theorem jPo_116 (l : Launch) (E : jE) : jPo l E 116 jc_116 := fun pc => okc_116 pc
theorem jPo_117 (l : Launch) (E : jE) : jPo l E 117 jc_117 := fun pc => okc_117 pc
theorem jPo_118 (l : Launch) (E : jE) : jPo l E 118 jc_118 := fun pc => okc_118 pc
theorem jPo_119 (l : Launch) (E : jE) : jPo l E 119 jc_119 := fun pc => okc_119 pc
theorem jPo_120 (l : Launch) (E : jE) : jPo l E 120 jc_120 := fun pc => okc_120 pc
theorem jPo_121 (l : Launch) (E : jE) : jPo l E 121 jc_121 := fun pc => okc_121 pc
theorem jPo_122 (l : Launch) (E : jE) : jPo l E 122 jc_122 := fun pc => okc_122 pc
theorem jPo_123 (l : Launch) (E : jE) : jPo l E 123 jc_123 := fun pc => okc_123 pc
theorem jPo_124 (l : Launch) (E : jE) : jPo l E 124 jc_124 := fun pc => okc_124 pc
theorem jPo_125 (l : Launch) (E : jE) : jPo l E 125 jc_125 := fun pc => okc_125 pc
theorem jPo_126 (l : Launch) (E : jE) : jPo l E 126 jc_126 := fun pc => okc_126 pc
theorem jPo_127 (l : Launch) (E : jE) : jPo l E 127 jc_127 := fun pc => okc_127 pc
theorem jPo_128 (l : Launch) (E : jE) : jPo l E 128 jc_128 := fun pc => okc_128 pc
theorem jPo_129 (l : Launch) (E : jE) : jPo l E 129 jc_129 := fun pc => okc_129 pc
theorem jPo_130 (l : Launch) (E : jE) : jPo l E 130 jc_130 := fun pc => okc_130 pc
theorem jPo_131 (l : Launch) (E : jE) : jPo l E 131 jc_131 := fun pc => okc_131 pc
theorem jPo_132 (l : Launch) (E : jE) : jPo l E 132 jc_132 := fun pc => okc_132 pc
theorem jPo_133 (l : Launch) (E : jE) : jPo l E 133 jc_133 := fun pc => okc_133 pc
theorem jPo_134 (l : Launch) (E : jE) : jPo l E 134 jc_134 := fun pc => okc_134 pc
theorem jPo_135 (l : Launch) (E : jE) : jPo l E 135 jc_135 := fun pc => okc_135 pc
theorem jPo_136 (l : Launch) (E : jE) : jPo l E 136 jc_136 := fun pc => okc_136 pc
theorem jPo_137 (l : Launch) (E : jE) : jPo l E 137 jc_137 := fun pc => okc_137 pc
theorem jPo_138 (l : Launch) (E : jE) : jPo l E 138 jc_138 := fun pc => okc_138 pc
theorem jPo_139 (l : Launch) (E : jE) : jPo l E 139 jc_139 := fun pc => okc_139 pc
theorem jPo_140 (l : Launch) (E : jE) : jPo l E 140 jc_140 := fun pc => okc_140 pc
theorem jPo_141 (l : Launch) (E : jE) : jPo l E 141 jc_141 := fun pc => okc_141 pc
theorem jPo_142 (l : Launch) (E : jE) : jPo l E 142 jc_142 := fun pc => okc_142 pc
theorem jPo_200 (l : Launch) (E : jE) : jPo l E 200 jc_200 := fun pc => okc_200 pc
theorem jPo_201 (l : Launch) (E : jE) : jPo l E 201 jc_201 := fun pc => okc_201 pc
theorem jPo_202 (l : Launch) (E : jE) : jPo l E 202 jc_202 := fun pc => okc_202 pc
theorem jPo_203 (l : Launch) (E : jE) : jPo l E 203 jc_203 := fun pc => okc_203 pc
theorem jPo_204 (l : Launch) (E : jE) : jPo l E 204 jc_204 := fun pc => okc_204 pc
theorem jPo_205 (l : Launch) (E : jE) : jPo l E 205 jc_205 := fun pc => okc_205 pc
theorem jPo_206 (l : Launch) (E : jE) : jPo l E 206 jc_206 := fun pc => okc_206 pc
theorem jPo_207 (l : Launch) (E : jE) : jPo l E 207 jc_207 := fun pc => okc_207 pc
theorem jPo_208 (l : Launch) (E : jE) : jPo l E 208 jc_208 := fun pc => okc_208 pc
theorem jPo_209 (l : Launch) (E : jE) : jPo l E 209 jc_209 := fun pc => okc_209 pc
theorem jPo_210 (l : Launch) (E : jE) : jPo l E 210 jc_210 := fun pc => okc_210 pc
theorem jPo_211 (l : Launch) (E : jE) : jPo l E 211 jc_211 := fun pc => okc_211 pc
theorem jPo_212 (l : Launch) (E : jE) : jPo l E 212 jc_212 := fun pc => okc_212 pc
theorem jPo_213 (l : Launch) (E : jE) : jPo l E 213 jc_213 := fun pc => okc_213 pc
theorem jPo_214 (l : Launch) (E : jE) : jPo l E 214 jc_214 := fun pc => okc_214 pc
theorem jPo_215 (l : Launch) (E : jE) : jPo l E 215 jc_215 := fun pc => okc_215 pc
theorem jPo_216 (l : Launch) (E : jE) : jPo l E 216 jc_216 := fun pc => okc_216 pc
theorem jPo_217 (l : Launch) (E : jE) : jPo l E 217 jc_217 := fun pc => okc_217 pc
theorem jPo_218 (l : Launch) (E : jE) : jPo l E 218 jc_218 := fun pc => okc_218 pc
theorem jPo_219 (l : Launch) (E : jE) : jPo l E 219 jc_219 := fun pc => okc_219 pc
theorem jPo_220 (l : Launch) (E : jE) : jPo l E 220 jc_220 := fun pc => okc_220 pc
theorem jPo_221 (l : Launch) (E : jE) : jPo l E 221 jc_221 := fun pc => okc_221 pc
theorem jPo_222 (l : Launch) (E : jE) : jPo l E 222 jc_222 := fun pc => okc_222 pc
theorem jPo_223 (l : Launch) (E : jE) : jPo l E 223 jc_223 := fun pc => okc_223 pc
theorem jPo_224 (l : Launch) (E : jE) : jPo l E 224 jc_224 := fun pc => okc_224 pc
theorem jPo_225 (l : Launch) (E : jE) : jPo l E 225 jc_225 := fun pc => okc_225 pc
theorem jPo_226 (l : Launch) (E : jE) : jPo l E 226 jc_226 := fun pc => okc_226 pc
theorem jPo_227 (l : Launch) (E : jE) : jPo l E 227 jc_227 := fun pc => okc_227 pc
theorem jPo_228 (l : Launch) (E : jE) : jPo l E 228 jc_228 := fun pc => okc_228 pc
theorem jPo_229 (l : Launch) (E : jE) : jPo l E 229 jc_229 := fun pc => okc_229 pc
theorem jPo_230 (l : Launch) (E : jE) : jPo l E 230 jc_230 := fun pc => okc_230 pc
theorem jPo_231 (l : Launch) (E : jE) : jPo l E 231 jc_231 := fun pc => okc_231 pc
theorem jPo_232 (l : Launch) (E : jE) : jPo l E 232 jc_232 := fun pc => okc_232 pc
theorem jPo_233 (l : Launch) (E : jE) : jPo l E 233 jc_233 := fun pc => okc_233 pc
theorem jPo_234 (l : Launch) (E : jE) : jPo l E 234 jc_234 := fun pc => okc_234 pc
theorem jPo_235 (l : Launch) (E : jE) : jPo l E 235 jc_235 := fun pc => okc_235 pc
theorem jPo_236 (l : Launch) (E : jE) : jPo l E 236 jc_236 := fun pc => okc_236 pc
theorem jPo_237 (l : Launch) (E : jE) : jPo l E 237 jc_237 := fun pc => okc_237 pc
theorem jPo_238 (l : Launch) (E : jE) : jPo l E 238 jc_238 := fun pc => okc_238 pc
theorem jPo_239 (l : Launch) (E : jE) : jPo l E 239 jc_239 := fun pc => okc_239 pc
theorem jPo_240 (l : Launch) (E : jE) : jPo l E 240 jc_240 := fun pc => okc_240 pc
theorem jPo_241 (l : Launch) (E : jE) : jPo l E 241 jc_241 := fun pc => okc_241 pc
theorem jPo_242 (l : Launch) (E : jE) : jPo l E 242 jc_242 := fun pc => okc_242 pc
theorem jPo_243 (l : Launch) (E : jE) : jPo l E 243 jc_243 := fun pc => okc_243 pc
theorem jPo_244 (l : Launch) (E : jE) : jPo l E 244 jc_244 := fun pc => okc_244 pc
theorem jPo_245 (l : Launch) (E : jE) : jPo l E 245 jc_245 := fun pc => okc_245 pc
theorem jPo_246 (l : Launch) (E : jE) : jPo l E 246 jc_246 := fun pc => okc_246 pc
theorem jPo_247 (l : Launch) (E : jE) : jPo l E 247 jc_247 := fun pc => okc_247 pc
theorem jPo_248 (l : Launch) (E : jE) : jPo l E 248 jc_248 := fun pc => okc_248 pc
theorem jPo_249 (l : Launch) (E : jE) : jPo l E 249 jc_249 := fun pc => okc_249 pc
theorem jPo_250 (l : Launch) (E : jE) : jPo l E 250 jc_250 := fun pc => okc_250 pc
theorem jPo_251 (l : Launch) (E : jE) : jPo l E 251 jc_251 := fun pc => okc_251 pc
theorem jPo_252 (l : Launch) (E : jE) : jPo l E 252 jc_252 := fun pc => okc_252 pc
theorem jPo_253 (l : Launch) (E : jE) : jPo l E 253 jc_253 := fun pc => okc_253 pc
theorem jPo_254 (l : Launch) (E : jE) : jPo l E 254 jc_254 := fun pc => okc_254 pc
theorem jPo_255 (l : Launch) (E : jE) : jPo l E 255 jc_255 := fun pc => okc_255 pc
theorem jPo_256 (l : Launch) (E : jE) : jPo l E 256 jc_256 := fun pc => okc_256 pc
theorem jPo_257 (l : Launch) (E : jE) : jPo l E 257 jc_257 := fun pc => okc_257 pc
theorem jPo_258 (l : Launch) (E : jE) : jPo l E 258 jc_258 := fun pc => okc_258 pc
theorem jPo_259 (l : Launch) (E : jE) : jPo l E 259 jc_259 := fun pc => okc_259 pc
theorem jPo_260 (l : Launch) (E : jE) : jPo l E 260 jc_260 := fun pc => okc_260 pc
theorem jPo_261 (l : Launch) (E : jE) : jPo l E 261 jc_261 := fun pc => okc_261 pc
theorem jPo_262 (l : Launch) (E : jE) : jPo l E 262 jc_262 := fun pc => okc_262 pc
theorem jPo_263 (l : Launch) (E : jE) : jPo l E 263 jc_263 := fun pc => okc_263 pc
theorem jPo_264 (l : Launch) (E : jE) : jPo l E 264 jc_264 := fun pc => okc_264 pc
theorem jPo_265 (l : Launch) (E : jE) : jPo l E 265 jc_265 := fun pc => okc_265 pc
theorem jPo_266 (l : Launch) (E : jE) : jPo l E 266 jc_266 := fun pc => okc_266 pc
theorem jPo_267 (l : Launch) (E : jE) : jPo l E 267 jc_267 := fun pc => okc_267 pc
theorem jPo_268 (l : Launch) (E : jE) : jPo l E 268 jc_268 := fun pc => okc_268 pc
theorem jPo_269 (l : Launch) (E : jE) : jPo l E 269 jc_269 := fun pc => okc_269 pc
theorem jPo_270 (l : Launch) (E : jE) : jPo l E 270 jc_270 := fun pc => okc_270 pc
theorem jPo_271 (l : Launch) (E : jE) : jPo l E 271 jc_271 := fun pc => okc_271 pc
theorem jPo_272 (l : Launch) (E : jE) : jPo l E 272 jc_272 := fun pc => okc_272 pc
theorem jPo_273 (l : Launch) (E : jE) : jPo l E 273 jc_273 := fun pc => okc_273 pc
theorem jPo_274 (l : Launch) (E : jE) : jPo l E 274 jc_274 := fun pc => okc_274 pc
theorem jPo_275 (l : Launch) (E : jE) : jPo l E 275 jc_275 := fun pc => okc_275 pc
theorem jPo_276 (l : Launch) (E : jE) : jPo l E 276 jc_276 := fun pc => okc_276 pc
theorem jPo_277 (l : Launch) (E : jE) : jPo l E 277 jc_277 := fun pc => okc_277 pc
theorem jPo_278 (l : Launch) (E : jE) : jPo l E 278 jc_278 := fun pc => okc_278 pc
theorem jPo_279 (l : Launch) (E : jE) : jPo l E 279 jc_279 := fun pc => okc_279 pc
theorem jPo_280 (l : Launch) (E : jE) : jPo l E 280 jc_280 := fun pc => okc_280 pc
theorem jPo_281 (l : Launch) (E : jE) : jPo l E 281 jc_281 := fun pc => okc_281 pc
theorem jPo_282 (l : Launch) (E : jE) : jPo l E 282 jc_282 := fun pc => okc_282 pc
theorem jPo_283 (l : Launch) (E : jE) : jPo l E 283 jc_283 := fun pc => okc_283 pc
theorem jPo_284 (l : Launch) (E : jE) : jPo l E 284 jc_284 := fun pc => okc_284 pc
theorem jPo_285 (l : Launch) (E : jE) : jPo l E 285 jc_285 := fun pc => okc_285 pc
theorem jPo_286 (l : Launch) (E : jE) : jPo l E 286 jc_286 := fun pc => okc_286 pc
theorem jPo_300 (l : Launch) (E : jE) : jPo l E 300 jc_300 := fun pc => okc_300 pc
theorem jPo_301 (l : Launch) (E : jE) : jPo l E 301 jc_301 := fun pc => okc_301 pc
theorem jPo_302 (l : Launch) (E : jE) : jPo l E 302 jc_302 := fun pc => okc_302 pc
theorem jPo_303 (l : Launch) (E : jE) : jPo l E 303 jc_303 := fun pc => okc_303 pc
theorem jPo_304 (l : Launch) (E : jE) : jPo l E 304 jc_304 := fun pc => okc_304 pc
theorem jPo_305 (l : Launch) (E : jE) : jPo l E 305 jc_305 := fun pc => okc_305 pc
theorem jPo_306 (l : Launch) (E : jE) : jPo l E 306 jc_306 := fun pc => okc_306 pc
theorem jPo_307 (l : Launch) (E : jE) : jPo l E 307 jc_307 := fun pc => okc_307 pc
theorem jPo_400 (l : Launch) (E : jE) : jPo l E 400 jc_400 := fun pc => okc_400 pc
set_option maxRecDepth 20000 in
theorem jC_sh : ∀ y pc, jSh (jwr y) (jcode y pc) := fun y => (show jPs y (jcode y) from (jT_node (P := jPs y) (jT_node (P := jPs y) (jT_node (P := jPs y) (jT_node (P := jPs y) (jT_node (P := jPs y) (jT_node (P := jPs y) (jT_node (P := jPs y) (jT_leaf (P := jPs) shc_0 (jPs0 y)) (jT_node (P := jPs y) (jT_leaf (P := jPs) shc_1 (jPs0 y)) (jT_leaf (P := jPs) shc_2 (jPs0 y)))) (jT_node (P := jPs y) (jT_node (P := jPs y) (jT_leaf (P := jPs) shc_3 (jPs0 y)) (jT_leaf (P := jPs) shc_4 (jPs0 y))) (jT_node (P := jPs y) (jT_leaf (P := jPs) shc_5 (jPs0 y)) (jT_leaf (P := jPs) shc_6 (jPs0 y))))) (jT_node (P := jPs y) (jT_node (P := jPs y) (jT_leaf (P := jPs) shc_7 (jPs0 y)) (jT_node (P := jPs y) (jT_leaf (P := jPs) shc_8 (jPs0 y)) (jT_leaf (P := jPs) shc_9 (jPs0 y)))) (jT_node (P := jPs y) (jT_node (P := jPs y) (jT_leaf (P := jPs) shc_10 (jPs0 y)) (jT_leaf (P := jPs) shc_11 (jPs0 y))) (jT_node (P := jPs y) (jT_leaf (P := jPs) shc_12 (jPs0 y)) (jT_leaf (P := jPs) shc_13 (jPs0 y)))))) (jT_node (P := jPs y) (jT_node (P := jPs y) (jT_node (P := jPs y) (jT_leaf (P := jPs) shc_14 (jPs0 y)) (jT_node (P := jPs y) (jT_leaf (P := jPs) shc_15 (jPs0 y)) (jT_leaf (P := jPs) shc_16 (jPs0 y)))) (jT_node (P := jPs y) (jT_node (P := jPs y) (jT_leaf (P := jPs) shc_17 (jPs0 y)) (jT_leaf (P := jPs) shc_18 (jPs0 y))) (jT_node (P := jPs y) (jT_leaf (P := jPs) shc_19 (jPs0 y)) (jT_leaf (P := jPs) shc_20 (jPs0 y))))) (jT_node (P := jPs y) (jT_node (P := jPs y) (jT_node (P := jPs y) (jT_leaf (P := jPs) shc_21 (jPs0 y)) (jT_leaf (P := jPs) shc_22 (jPs0 y))) (jT_node (P := jPs y) (jT_leaf (P := jPs) shc_23 (jPs0 y)) (jT_leaf (P := jPs) shc_24 (jPs0 y)))) (jT_node (P := jPs y) (jT_node (P := jPs y) (jT_leaf (P := jPs) shc_25 (jPs0 y)) (jT_leaf (P := jPs) shc_26 (jPs0 y))) (jT_node (P := jPs y) (jT_leaf (P := jPs) shc_27 (jPs0 y)) (jT_leaf (P := jPs) shc_28 (jPs0 y))))))) (jT_node (P := jPs y) (jT_node (P := jPs y) (jT_node (P := jPs y) (jT_node (P := jPs y) (jT_leaf (P := jPs) shc_29 (jPs0 y)) (jT_node (P := jPs y) (jT_leaf (P := jPs) shc_30 (jPs0 y)) (jT_leaf (P := jPs) shc_31 (jPs0 y)))) (jT_node (P := jPs y) (jT_node (P := jPs y) (jT_leaf (P := jPs) shc_32 (jPs0 y)) (jT_leaf (P := jPs) shc_33 (jPs0 y))) (jT_node (P := jPs y) (jT_leaf (P := jPs) shc_34 (jPs0 y)) (jT_leaf (P := jPs) shc_35 (jPs0 y))))) (jT_node (P := jPs y) (jT_node (P := jPs y) (jT_node (P := jPs y) (jT_leaf (P := jPs) shc_36 (jPs0 y)) (jT_leaf (P := jPs) shc_37 (jPs0 y))) (jT_node (P := jPs y) (jT_leaf (P := jPs) shc_38 (jPs0 y)) (jT_leaf (P := jPs) shc_39 (jPs0 y)))) (jT_node (P := jPs y) (jT_node (P := jPs y) (jT_leaf (P := jPs) shc_40 (jPs0 y)) (jT_leaf (P := jPs) shc_41 (jPs0 y))) (jT_node (P := jPs y) (jT_leaf (P := jPs) shc_42 (jPs0 y)) (jT_leaf (P := jPs) shc_43 (jPs0 y)))))) (jT_node (P := jPs y) (jT_node (P := jPs y) (jT_node (P := jPs y) (jT_leaf (P := jPs) shc_44 (jPs0 y)) (jT_node (P := jPs y) (jT_leaf (P := jPs) shc_45 (jPs0 y)) (jT_leaf (P := jPs) shc_46 (jPs0 y)))) (jT_node (P := jPs y) (jT_node (P := jPs y) (jT_leaf (P := jPs) shc_47 (jPs0 y)) (jT_leaf (P := jPs) shc_48 (jPs0 y))) (jT_node (P := jPs y) (jT_leaf (P := jPs) shc_49 (jPs0 y)) (jT_leaf (P := jPs) shc_50 (jPs0 y))))) (jT_node (P := jPs y) (jT_node (P := jPs y) (jT_node (P := jPs y) (jT_leaf (P := jPs) shc_51 (jPs0 y)) (jT_leaf (P := jPs) shc_52 (jPs0 y))) (jT_node (P := jPs y) (jT_leaf (P := jPs) shc_53 (jPs0 y)) (jT_leaf (P := jPs) shc_54 (jPs0 y)))) (jT_node (P := jPs y) (jT_node (P := jPs y) (jT_leaf (P := jPs) shc_55 (jPs0 y)) (jT_leaf (P := jPs) shc_56 (jPs0 y))) (jT_node (P := jPs y) (jT_leaf (P := jPs) shc_57 (jPs0 y)) (jT_leaf (P := jPs) shc_58 (jPs0 y)))))))) (jT_node (P := jPs y) (jT_node (P := jPs y) (jT_node (P := jPs y) (jT_node (P := jPs y) (jT_node (P := jPs y) (jT_leaf (P := jPs) shc_59 (jPs0 y)) (jT_node (P := jPs y) (jT_leaf (P := jPs) shc_60 (jPs0 y)) (jT_leaf (P := jPs) shc_61 (jPs0 y)))) (jT_node (P := jPs y) (jT_node (P := jPs y) (jT_leaf (P := jPs) shc_62 (jPs0 y)) (jT_leaf (P := jPs) shc_63 (jPs0 y))) (jT_node (P := jPs y) (jT_leaf (P := jPs) shc_64 (jPs0 y)) (jT_leaf (P := jPs) shc_65 (jPs0 y))))) (jT_node (P := jPs y) (jT_node (P := jPs y) (jT_node (P := jPs y) (jT_leaf (P := jPs) shc_66 (jPs0 y)) (jT_leaf (P := jPs) shc_67 (jPs0 y))) (jT_node (P := jPs y) (jT_leaf (P := jPs) shc_68 (jPs0 y)) (jT_leaf (P := jPs) shc_69 (jPs0 y)))) (jT_node (P := jPs y) (jT_node (P := jPs y) (jT_leaf (P := jPs) shc_70 (jPs0 y)) (jT_leaf (P := jPs) shc_71 (jPs0 y))) (jT_node (P := jPs y) (jT_leaf (P := jPs) shc_72 (jPs0 y)) (jT_leaf (P := jPs) shc_73 (jPs0 y)))))) (jT_node (P := jPs y) (jT_node (P := jPs y) (jT_node (P := jPs y) (jT_leaf (P := jPs) shc_74 (jPs0 y)) (jT_node (P := jPs y) (jT_leaf (P := jPs) shc_75 (jPs0 y)) (jT_leaf (P := jPs) shc_76 (jPs0 y)))) (jT_node (P := jPs y) (jT_node (P := jPs y) (jT_leaf (P := jPs) shc_77 (jPs0 y)) (jT_leaf (P := jPs) shc_78 (jPs0 y))) (jT_node (P := jPs y) (jT_leaf (P := jPs) shc_79 (jPs0 y)) (jT_leaf (P := jPs) shc_80 (jPs0 y))))) (jT_node (P := jPs y) (jT_node (P := jPs y) (jT_node (P := jPs y) (jT_leaf (P := jPs) shc_81 (jPs0 y)) (jT_leaf (P := jPs) shc_82 (jPs0 y))) (jT_node (P := jPs y) (jT_leaf (P := jPs) shc_83 (jPs0 y)) (jT_leaf (P := jPs) shc_84 (jPs0 y)))) (jT_node (P := jPs y) (jT_node (P := jPs y) (jT_leaf (P := jPs) shc_85 (jPs0 y)) (jT_leaf (P := jPs) shc_86 (jPs0 y))) (jT_node (P := jPs y) (jT_leaf (P := jPs) shc_87 (jPs0 y)) (jT_leaf (P := jPs) shc_88 (jPs0 y))))))) (jT_node (P := jPs y) (jT_node (P := jPs y) (jT_node (P := jPs y) (jT_node (P := jPs y) (jT_leaf (P := jPs) shc_89 (jPs0 y)) (jT_node (P := jPs y) (jT_leaf (P := jPs) shc_90 (jPs0 y)) (jT_leaf (P := jPs) shc_91 (jPs0 y)))) (jT_node (P := jPs y) (jT_node (P := jPs y) (jT_leaf (P := jPs) shc_92 (jPs0 y)) (jT_leaf (P := jPs) shc_93 (jPs0 y))) (jT_node (P := jPs y) (jT_leaf (P := jPs) shc_94 (jPs0 y)) (jT_leaf (P := jPs) shc_95 (jPs0 y))))) (jT_node (P := jPs y) (jT_node (P := jPs y) (jT_node (P := jPs y) (jT_leaf (P := jPs) shc_96 (jPs0 y)) (jT_leaf (P := jPs) shc_97 (jPs0 y))) (jT_node (P := jPs y) (jT_leaf (P := jPs) shc_98 (jPs0 y)) (jT_leaf (P := jPs) shc_99 (jPs0 y)))) (jT_node (P := jPs y) (jT_node (P := jPs y) (jT_leaf (P := jPs) shc_100 (jPs0 y)) (jT_leaf (P := jPs) shc_101 (jPs0 y))) (jT_node (P := jPs y) (jT_leaf (P := jPs) shc_102 (jPs0 y)) (jT_leaf (P := jPs) shc_103 (jPs0 y)))))) (jT_node (P := jPs y) (jT_node (P := jPs y) (jT_node (P := jPs y) (jT_leaf (P := jPs) shc_104 (jPs0 y)) (jT_node (P := jPs y) (jT_leaf (P := jPs) shc_105 (jPs0 y)) (jT_leaf (P := jPs) shc_106 (jPs0 y)))) (jT_node (P := jPs y) (jT_node (P := jPs y) (jT_leaf (P := jPs) shc_107 (jPs0 y)) (jT_leaf (P := jPs) shc_108 (jPs0 y))) (jT_node (P := jPs y) (jT_leaf (P := jPs) shc_109 (jPs0 y)) (jT_leaf (P := jPs) shc_110 (jPs0 y))))) (jT_node (P := jPs y) (jT_node (P := jPs y) (jT_node (P := jPs y) (jT_leaf (P := jPs) shc_111 (jPs0 y)) (jT_leaf (P := jPs) shc_112 (jPs0 y))) (jT_node (P := jPs y) (jT_leaf (P := jPs) shc_113 (jPs0 y)) (jT_leaf (P := jPs) shc_114 (jPs0 y)))) (jT_node (P := jPs y) (jT_node (P := jPs y) (jT_leaf (P := jPs) shc_115 (jPs0 y)) (jT_leaf (P := jPs) shc_116 (jPs0 y))) (jT_node (P := jPs y) (jT_leaf (P := jPs) shc_117 (jPs0 y)) (jT_leaf (P := jPs) shc_118 (jPs0 y))))))))) (jT_node (P := jPs y) (jT_node (P := jPs y) (jT_node (P := jPs y) (jT_node (P := jPs y) (jT_node (P := jPs y) (jT_node (P := jPs y) (jT_leaf (P := jPs) shc_119 (jPs0 y)) (jT_node (P := jPs y) (jT_leaf (P := jPs) shc_120 (jPs0 y)) (jT_leaf (P := jPs) shc_121 (jPs0 y)))) (jT_node (P := jPs y) (jT_node (P := jPs y) (jT_leaf (P := jPs) shc_122 (jPs0 y)) (jT_leaf (P := jPs) shc_123 (jPs0 y))) (jT_node (P := jPs y) (jT_leaf (P := jPs) shc_124 (jPs0 y)) (jT_leaf (P := jPs) shc_125 (jPs0 y))))) (jT_node (P := jPs y) (jT_node (P := jPs y) (jT_node (P := jPs y) (jT_leaf (P := jPs) shc_126 (jPs0 y)) (jT_leaf (P := jPs) shc_127 (jPs0 y))) (jT_node (P := jPs y) (jT_leaf (P := jPs) shc_128 (jPs0 y)) (jT_leaf (P := jPs) shc_129 (jPs0 y)))) (jT_node (P := jPs y) (jT_node (P := jPs y) (jT_leaf (P := jPs) shc_130 (jPs0 y)) (jT_leaf (P := jPs) shc_131 (jPs0 y))) (jT_node (P := jPs y) (jT_leaf (P := jPs) shc_132 (jPs0 y)) (jT_leaf (P := jPs) shc_133 (jPs0 y)))))) (jT_node (P := jPs y) (jT_node (P := jPs y) (jT_node (P := jPs y) (jT_leaf (P := jPs) shc_134 (jPs0 y)) (jT_node (P := jPs y) (jT_leaf (P := jPs) shc_135 (jPs0 y)) (jT_leaf (P := jPs) shc_136 (jPs0 y)))) (jT_node (P := jPs y) (jT_node (P := jPs y) (jT_leaf (P := jPs) shc_137 (jPs0 y)) (jT_leaf (P := jPs) shc_138 (jPs0 y))) (jT_node (P := jPs y) (jT_leaf (P := jPs) shc_139 (jPs0 y)) (jT_leaf (P := jPs) shc_140 (jPs0 y))))) (jT_node (P := jPs y) (jT_node (P := jPs y) (jT_node (P := jPs y) (jT_leaf (P := jPs) shc_141 (jPs0 y)) (jT_leaf (P := jPs) shc_142 (jPs0 y))) (jT_node (P := jPs y) (jT_leaf (P := jPs) shc_200 (jPs0 y)) (jT_leaf (P := jPs) shc_201 (jPs0 y)))) (jT_node (P := jPs y) (jT_node (P := jPs y) (jT_leaf (P := jPs) shc_202 (jPs0 y)) (jT_leaf (P := jPs) shc_203 (jPs0 y))) (jT_node (P := jPs y) (jT_leaf (P := jPs) shc_204 (jPs0 y)) (jT_leaf (P := jPs) shc_205 (jPs0 y))))))) (jT_node (P := jPs y) (jT_node (P := jPs y) (jT_node (P := jPs y) (jT_node (P := jPs y) (jT_leaf (P := jPs) shc_206 (jPs0 y)) (jT_node (P := jPs y) (jT_leaf (P := jPs) shc_207 (jPs0 y)) (jT_leaf (P := jPs) shc_208 (jPs0 y)))) (jT_node (P := jPs y) (jT_node (P := jPs y) (jT_leaf (P := jPs) shc_209 (jPs0 y)) (jT_leaf (P := jPs) shc_210 (jPs0 y))) (jT_node (P := jPs y) (jT_leaf (P := jPs) shc_211 (jPs0 y)) (jT_leaf (P := jPs) shc_212 (jPs0 y))))) (jT_node (P := jPs y) (jT_node (P := jPs y) (jT_node (P := jPs y) (jT_leaf (P := jPs) shc_213 (jPs0 y)) (jT_leaf (P := jPs) shc_214 (jPs0 y))) (jT_node (P := jPs y) (jT_leaf (P := jPs) shc_215 (jPs0 y)) (jT_leaf (P := jPs) shc_216 (jPs0 y)))) (jT_node (P := jPs y) (jT_node (P := jPs y) (jT_leaf (P := jPs) shc_217 (jPs0 y)) (jT_leaf (P := jPs) shc_218 (jPs0 y))) (jT_node (P := jPs y) (jT_leaf (P := jPs) shc_219 (jPs0 y)) (jT_leaf (P := jPs) shc_220 (jPs0 y)))))) (jT_node (P := jPs y) (jT_node (P := jPs y) (jT_node (P := jPs y) (jT_leaf (P := jPs) shc_221 (jPs0 y)) (jT_node (P := jPs y) (jT_leaf (P := jPs) shc_222 (jPs0 y)) (jT_leaf (P := jPs) shc_223 (jPs0 y)))) (jT_node (P := jPs y) (jT_node (P := jPs y) (jT_leaf (P := jPs) shc_224 (jPs0 y)) (jT_leaf (P := jPs) shc_225 (jPs0 y))) (jT_node (P := jPs y) (jT_leaf (P := jPs) shc_226 (jPs0 y)) (jT_leaf (P := jPs) shc_227 (jPs0 y))))) (jT_node (P := jPs y) (jT_node (P := jPs y) (jT_node (P := jPs y) (jT_leaf (P := jPs) shc_228 (jPs0 y)) (jT_leaf (P := jPs) shc_229 (jPs0 y))) (jT_node (P := jPs y) (jT_leaf (P := jPs) shc_230 (jPs0 y)) (jT_leaf (P := jPs) shc_231 (jPs0 y)))) (jT_node (P := jPs y) (jT_node (P := jPs y) (jT_leaf (P := jPs) shc_232 (jPs0 y)) (jT_leaf (P := jPs) shc_233 (jPs0 y))) (jT_node (P := jPs y) (jT_leaf (P := jPs) shc_234 (jPs0 y)) (jT_leaf (P := jPs) shc_235 (jPs0 y)))))))) (jT_node (P := jPs y) (jT_node (P := jPs y) (jT_node (P := jPs y) (jT_node (P := jPs y) (jT_node (P := jPs y) (jT_leaf (P := jPs) shc_236 (jPs0 y)) (jT_node (P := jPs y) (jT_leaf (P := jPs) shc_237 (jPs0 y)) (jT_leaf (P := jPs) shc_238 (jPs0 y)))) (jT_node (P := jPs y) (jT_node (P := jPs y) (jT_leaf (P := jPs) shc_239 (jPs0 y)) (jT_leaf (P := jPs) shc_240 (jPs0 y))) (jT_node (P := jPs y) (jT_leaf (P := jPs) shc_241 (jPs0 y)) (jT_leaf (P := jPs) shc_242 (jPs0 y))))) (jT_node (P := jPs y) (jT_node (P := jPs y) (jT_node (P := jPs y) (jT_leaf (P := jPs) shc_243 (jPs0 y)) (jT_leaf (P := jPs) shc_244 (jPs0 y))) (jT_node (P := jPs y) (jT_leaf (P := jPs) shc_245 (jPs0 y)) (jT_leaf (P := jPs) shc_246 (jPs0 y)))) (jT_node (P := jPs y) (jT_node (P := jPs y) (jT_leaf (P := jPs) shc_247 (jPs0 y)) (jT_leaf (P := jPs) shc_248 (jPs0 y))) (jT_node (P := jPs y) (jT_leaf (P := jPs) shc_249 (jPs0 y)) (jT_leaf (P := jPs) shc_250 (jPs0 y)))))) (jT_node (P := jPs y) (jT_node (P := jPs y) (jT_node (P := jPs y) (jT_leaf (P := jPs) shc_251 (jPs0 y)) (jT_node (P := jPs y) (jT_leaf (P := jPs) shc_252 (jPs0 y)) (jT_leaf (P := jPs) shc_253 (jPs0 y)))) (jT_node (P := jPs y) (jT_node (P := jPs y) (jT_leaf (P := jPs) shc_254 (jPs0 y)) (jT_leaf (P := jPs) shc_255 (jPs0 y))) (jT_node (P := jPs y) (jT_leaf (P := jPs) shc_256 (jPs0 y)) (jT_leaf (P := jPs) shc_257 (jPs0 y))))) (jT_node (P := jPs y) (jT_node (P := jPs y) (jT_node (P := jPs y) (jT_leaf (P := jPs) shc_258 (jPs0 y)) (jT_leaf (P := jPs) shc_259 (jPs0 y))) (jT_node (P := jPs y) (jT_leaf (P := jPs) shc_260 (jPs0 y)) (jT_leaf (P := jPs) shc_261 (jPs0 y)))) (jT_node (P := jPs y) (jT_node (P := jPs y) (jT_leaf (P := jPs) shc_262 (jPs0 y)) (jT_leaf (P := jPs) shc_263 (jPs0 y))) (jT_node (P := jPs y) (jT_leaf (P := jPs) shc_264 (jPs0 y)) (jT_leaf (P := jPs) shc_265 (jPs0 y))))))) (jT_node (P := jPs y) (jT_node (P := jPs y) (jT_node (P := jPs y) (jT_node (P := jPs y) (jT_leaf (P := jPs) shc_266 (jPs0 y)) (jT_node (P := jPs y) (jT_leaf (P := jPs) shc_267 (jPs0 y)) (jT_leaf (P := jPs) shc_268 (jPs0 y)))) (jT_node (P := jPs y) (jT_node (P := jPs y) (jT_leaf (P := jPs) shc_269 (jPs0 y)) (jT_leaf (P := jPs) shc_270 (jPs0 y))) (jT_node (P := jPs y) (jT_leaf (P := jPs) shc_271 (jPs0 y)) (jT_leaf (P := jPs) shc_272 (jPs0 y))))) (jT_node (P := jPs y) (jT_node (P := jPs y) (jT_node (P := jPs y) (jT_leaf (P := jPs) shc_273 (jPs0 y)) (jT_leaf (P := jPs) shc_274 (jPs0 y))) (jT_node (P := jPs y) (jT_leaf (P := jPs) shc_275 (jPs0 y)) (jT_leaf (P := jPs) shc_276 (jPs0 y)))) (jT_node (P := jPs y) (jT_node (P := jPs y) (jT_leaf (P := jPs) shc_277 (jPs0 y)) (jT_leaf (P := jPs) shc_278 (jPs0 y))) (jT_node (P := jPs y) (jT_leaf (P := jPs) shc_279 (jPs0 y)) (jT_leaf (P := jPs) shc_280 (jPs0 y)))))) (jT_node (P := jPs y) (jT_node (P := jPs y) (jT_node (P := jPs y) (jT_leaf (P := jPs) shc_281 (jPs0 y)) (jT_node (P := jPs y) (jT_leaf (P := jPs) shc_282 (jPs0 y)) (jT_leaf (P := jPs) shc_283 (jPs0 y)))) (jT_node (P := jPs y) (jT_node (P := jPs y) (jT_leaf (P := jPs) shc_284 (jPs0 y)) (jT_leaf (P := jPs) shc_285 (jPs0 y))) (jT_node (P := jPs y) (jT_leaf (P := jPs) shc_286 (jPs0 y)) (jT_leaf (P := jPs) shc_300 (jPs0 y))))) (jT_node (P := jPs y) (jT_node (P := jPs y) (jT_node (P := jPs y) (jT_leaf (P := jPs) shc_301 (jPs0 y)) (jT_leaf (P := jPs) shc_302 (jPs0 y))) (jT_node (P := jPs y) (jT_leaf (P := jPs) shc_303 (jPs0 y)) (jT_leaf (P := jPs) shc_304 (jPs0 y)))) (jT_node (P := jPs y) (jT_node (P := jPs y) (jT_leaf (P := jPs) shc_305 (jPs0 y)) (jT_leaf (P := jPs) shc_306 (jPs0 y))) (jT_node (P := jPs y) (jT_leaf (P := jPs) shc_307 (jPs0 y)) (jT_leaf (P := jPs) shc_400 (jPs0 y)))))))))))
set_option maxRecDepth 20000 in
theorem jC_ok (l : Launch) (E : jE) : jAll l E jcode := fun y => (show jPo l E y (jcode y) from (jT_node (P := jPo l E y) (jT_node (P := jPo l E y) (jT_node (P := jPo l E y) (jT_node (P := jPo l E y) (jT_node (P := jPo l E y) (jT_node (P := jPo l E y) (jT_node (P := jPo l E y) (jT_leaf (P := jPo l E) (jPo_0 l E) (jPo0 l E y)) (jT_node (P := jPo l E y) (jT_leaf (P := jPo l E) (jPo_1 l E) (jPo0 l E y)) (jT_leaf (P := jPo l E) (jPo_2 l E) (jPo0 l E y)))) (jT_node (P := jPo l E y) (jT_node (P := jPo l E y) (jT_leaf (P := jPo l E) (jPo_3 l E) (jPo0 l E y)) (jT_leaf (P := jPo l E) (jPo_4 l E) (jPo0 l E y))) (jT_node (P := jPo l E y) (jT_leaf (P := jPo l E) (jPo_5 l E) (jPo0 l E y)) (jT_leaf (P := jPo l E) (jPo_6 l E) (jPo0 l E y))))) (jT_node (P := jPo l E y) (jT_node (P := jPo l E y) (jT_leaf (P := jPo l E) (jPo_7 l E) (jPo0 l E y)) (jT_node (P := jPo l E y) (jT_leaf (P := jPo l E) (jPo_8 l E) (jPo0 l E y)) (jT_leaf (P := jPo l E) (jPo_9 l E) (jPo0 l E y)))) (jT_node (P := jPo l E y) (jT_node (P := jPo l E y) (jT_leaf (P := jPo l E) (jPo_10 l E) (jPo0 l E y)) (jT_leaf (P := jPo l E) (jPo_11 l E) (jPo0 l E y))) (jT_node (P := jPo l E y) (jT_leaf (P := jPo l E) (jPo_12 l E) (jPo0 l E y)) (jT_leaf (P := jPo l E) (jPo_13 l E) (jPo0 l E y)))))) (jT_node (P := jPo l E y) (jT_node (P := jPo l E y) (jT_node (P := jPo l E y) (jT_leaf (P := jPo l E) (jPo_14 l E) (jPo0 l E y)) (jT_node (P := jPo l E y) (jT_leaf (P := jPo l E) (jPo_15 l E) (jPo0 l E y)) (jT_leaf (P := jPo l E) (jPo_16 l E) (jPo0 l E y)))) (jT_node (P := jPo l E y) (jT_node (P := jPo l E y) (jT_leaf (P := jPo l E) (jPo_17 l E) (jPo0 l E y)) (jT_leaf (P := jPo l E) (jPo_18 l E) (jPo0 l E y))) (jT_node (P := jPo l E y) (jT_leaf (P := jPo l E) (jPo_19 l E) (jPo0 l E y)) (jT_leaf (P := jPo l E) (jPo_20 l E) (jPo0 l E y))))) (jT_node (P := jPo l E y) (jT_node (P := jPo l E y) (jT_node (P := jPo l E y) (jT_leaf (P := jPo l E) (jPo_21 l E) (jPo0 l E y)) (jT_leaf (P := jPo l E) (jPo_22 l E) (jPo0 l E y))) (jT_node (P := jPo l E y) (jT_leaf (P := jPo l E) (jPo_23 l E) (jPo0 l E y)) (jT_leaf (P := jPo l E) (jPo_24 l E) (jPo0 l E y)))) (jT_node (P := jPo l E y) (jT_node (P := jPo l E y) (jT_leaf (P := jPo l E) (jPo_25 l E) (jPo0 l E y)) (jT_leaf (P := jPo l E) (jPo_26 l E) (jPo0 l E y))) (jT_node (P := jPo l E y) (jT_leaf (P := jPo l E) (jPo_27 l E) (jPo0 l E y)) (jT_leaf (P := jPo l E) (jPo_28 l E) (jPo0 l E y))))))) (jT_node (P := jPo l E y) (jT_node (P := jPo l E y) (jT_node (P := jPo l E y) (jT_node (P := jPo l E y) (jT_leaf (P := jPo l E) (jPo_29 l E) (jPo0 l E y)) (jT_node (P := jPo l E y) (jT_leaf (P := jPo l E) (jPo_30 l E) (jPo0 l E y)) (jT_leaf (P := jPo l E) (jPo_31 l E) (jPo0 l E y)))) (jT_node (P := jPo l E y) (jT_node (P := jPo l E y) (jT_leaf (P := jPo l E) (jPo_32 l E) (jPo0 l E y)) (jT_leaf (P := jPo l E) (jPo_33 l E) (jPo0 l E y))) (jT_node (P := jPo l E y) (jT_leaf (P := jPo l E) (jPo_34 l E) (jPo0 l E y)) (jT_leaf (P := jPo l E) (jPo_35 l E) (jPo0 l E y))))) (jT_node (P := jPo l E y) (jT_node (P := jPo l E y) (jT_node (P := jPo l E y) (jT_leaf (P := jPo l E) (jPo_36 l E) (jPo0 l E y)) (jT_leaf (P := jPo l E) (jPo_37 l E) (jPo0 l E y))) (jT_node (P := jPo l E y) (jT_leaf (P := jPo l E) (jPo_38 l E) (jPo0 l E y)) (jT_leaf (P := jPo l E) (jPo_39 l E) (jPo0 l E y)))) (jT_node (P := jPo l E y) (jT_node (P := jPo l E y) (jT_leaf (P := jPo l E) (jPo_40 l E) (jPo0 l E y)) (jT_leaf (P := jPo l E) (jPo_41 l E) (jPo0 l E y))) (jT_node (P := jPo l E y) (jT_leaf (P := jPo l E) (jPo_42 l E) (jPo0 l E y)) (jT_leaf (P := jPo l E) (jPo_43 l E) (jPo0 l E y)))))) (jT_node (P := jPo l E y) (jT_node (P := jPo l E y) (jT_node (P := jPo l E y) (jT_leaf (P := jPo l E) (jPo_44 l E) (jPo0 l E y)) (jT_node (P := jPo l E y) (jT_leaf (P := jPo l E) (jPo_45 l E) (jPo0 l E y)) (jT_leaf (P := jPo l E) (jPo_46 l E) (jPo0 l E y)))) (jT_node (P := jPo l E y) (jT_node (P := jPo l E y) (jT_leaf (P := jPo l E) (jPo_47 l E) (jPo0 l E y)) (jT_leaf (P := jPo l E) (jPo_48 l E) (jPo0 l E y))) (jT_node (P := jPo l E y) (jT_leaf (P := jPo l E) (jPo_49 l E) (jPo0 l E y)) (jT_leaf (P := jPo l E) (jPo_50 l E) (jPo0 l E y))))) (jT_node (P := jPo l E y) (jT_node (P := jPo l E y) (jT_node (P := jPo l E y) (jT_leaf (P := jPo l E) (jPo_51 l E) (jPo0 l E y)) (jT_leaf (P := jPo l E) (jPo_52 l E) (jPo0 l E y))) (jT_node (P := jPo l E y) (jT_leaf (P := jPo l E) (jPo_53 l E) (jPo0 l E y)) (jT_leaf (P := jPo l E) (jPo_54 l E) (jPo0 l E y)))) (jT_node (P := jPo l E y) (jT_node (P := jPo l E y) (jT_leaf (P := jPo l E) (jPo_55 l E) (jPo0 l E y)) (jT_leaf (P := jPo l E) (jPo_56 l E) (jPo0 l E y))) (jT_node (P := jPo l E y) (jT_leaf (P := jPo l E) (jPo_57 l E) (jPo0 l E y)) (jT_leaf (P := jPo l E) (jPo_58 l E) (jPo0 l E y)))))))) (jT_node (P := jPo l E y) (jT_node (P := jPo l E y) (jT_node (P := jPo l E y) (jT_node (P := jPo l E y) (jT_node (P := jPo l E y) (jT_leaf (P := jPo l E) (jPo_59 l E) (jPo0 l E y)) (jT_node (P := jPo l E y) (jT_leaf (P := jPo l E) (jPo_60 l E) (jPo0 l E y)) (jT_leaf (P := jPo l E) (jPo_61 l E) (jPo0 l E y)))) (jT_node (P := jPo l E y) (jT_node (P := jPo l E y) (jT_leaf (P := jPo l E) (jPo_62 l E) (jPo0 l E y)) (jT_leaf (P := jPo l E) (jPo_63 l E) (jPo0 l E y))) (jT_node (P := jPo l E y) (jT_leaf (P := jPo l E) (jPo_64 l E) (jPo0 l E y)) (jT_leaf (P := jPo l E) (jPo_65 l E) (jPo0 l E y))))) (jT_node (P := jPo l E y) (jT_node (P := jPo l E y) (jT_node (P := jPo l E y) (jT_leaf (P := jPo l E) (jPo_66 l E) (jPo0 l E y)) (jT_leaf (P := jPo l E) (jPo_67 l E) (jPo0 l E y))) (jT_node (P := jPo l E y) (jT_leaf (P := jPo l E) (jPo_68 l E) (jPo0 l E y)) (jT_leaf (P := jPo l E) (jPo_69 l E) (jPo0 l E y)))) (jT_node (P := jPo l E y) (jT_node (P := jPo l E y) (jT_leaf (P := jPo l E) (jPo_70 l E) (jPo0 l E y)) (jT_leaf (P := jPo l E) (jPo_71 l E) (jPo0 l E y))) (jT_node (P := jPo l E y) (jT_leaf (P := jPo l E) (jPo_72 l E) (jPo0 l E y)) (jT_leaf (P := jPo l E) (jPo_73 l E) (jPo0 l E y)))))) (jT_node (P := jPo l E y) (jT_node (P := jPo l E y) (jT_node (P := jPo l E y) (jT_leaf (P := jPo l E) (jPo_74 l E) (jPo0 l E y)) (jT_node (P := jPo l E y) (jT_leaf (P := jPo l E) (jPo_75 l E) (jPo0 l E y)) (jT_leaf (P := jPo l E) (jPo_76 l E) (jPo0 l E y)))) (jT_node (P := jPo l E y) (jT_node (P := jPo l E y) (jT_leaf (P := jPo l E) (jPo_77 l E) (jPo0 l E y)) (jT_leaf (P := jPo l E) (jPo_78 l E) (jPo0 l E y))) (jT_node (P := jPo l E y) (jT_leaf (P := jPo l E) (jPo_79 l E) (jPo0 l E y)) (jT_leaf (P := jPo l E) (jPo_80 l E) (jPo0 l E y))))) (jT_node (P := jPo l E y) (jT_node (P := jPo l E y) (jT_node (P := jPo l E y) (jT_leaf (P := jPo l E) (jPo_81 l E) (jPo0 l E y)) (jT_leaf (P := jPo l E) (jPo_82 l E) (jPo0 l E y))) (jT_node (P := jPo l E y) (jT_leaf (P := jPo l E) (jPo_83 l E) (jPo0 l E y)) (jT_leaf (P := jPo l E) (jPo_84 l E) (jPo0 l E y)))) (jT_node (P := jPo l E y) (jT_node (P := jPo l E y) (jT_leaf (P := jPo l E) (jPo_85 l E) (jPo0 l E y)) (jT_leaf (P := jPo l E) (jPo_86 l E) (jPo0 l E y))) (jT_node (P := jPo l E y) (jT_leaf (P := jPo l E) (jPo_87 l E) (jPo0 l E y)) (jT_leaf (P := jPo l E) (jPo_88 l E) (jPo0 l E y))))))) (jT_node (P := jPo l E y) (jT_node (P := jPo l E y) (jT_node (P := jPo l E y) (jT_node (P := jPo l E y) (jT_leaf (P := jPo l E) (jPo_89 l E) (jPo0 l E y)) (jT_node (P := jPo l E y) (jT_leaf (P := jPo l E) (jPo_90 l E) (jPo0 l E y)) (jT_leaf (P := jPo l E) (jPo_91 l E) (jPo0 l E y)))) (jT_node (P := jPo l E y) (jT_node (P := jPo l E y) (jT_leaf (P := jPo l E) (jPo_92 l E) (jPo0 l E y)) (jT_leaf (P := jPo l E) (jPo_93 l E) (jPo0 l E y))) (jT_node (P := jPo l E y) (jT_leaf (P := jPo l E) (jPo_94 l E) (jPo0 l E y)) (jT_leaf (P := jPo l E) (jPo_95 l E) (jPo0 l E y))))) (jT_node (P := jPo l E y) (jT_node (P := jPo l E y) (jT_node (P := jPo l E y) (jT_leaf (P := jPo l E) (jPo_96 l E) (jPo0 l E y)) (jT_leaf (P := jPo l E) (jPo_97 l E) (jPo0 l E y))) (jT_node (P := jPo l E y) (jT_leaf (P := jPo l E) (jPo_98 l E) (jPo0 l E y)) (jT_leaf (P := jPo l E) (jPo_99 l E) (jPo0 l E y)))) (jT_node (P := jPo l E y) (jT_node (P := jPo l E y) (jT_leaf (P := jPo l E) (jPo_100 l E) (jPo0 l E y)) (jT_leaf (P := jPo l E) (jPo_101 l E) (jPo0 l E y))) (jT_node (P := jPo l E y) (jT_leaf (P := jPo l E) (jPo_102 l E) (jPo0 l E y)) (jT_leaf (P := jPo l E) (jPo_103 l E) (jPo0 l E y)))))) (jT_node (P := jPo l E y) (jT_node (P := jPo l E y) (jT_node (P := jPo l E y) (jT_leaf (P := jPo l E) (jPo_104 l E) (jPo0 l E y)) (jT_node (P := jPo l E y) (jT_leaf (P := jPo l E) (jPo_105 l E) (jPo0 l E y)) (jT_leaf (P := jPo l E) (jPo_106 l E) (jPo0 l E y)))) (jT_node (P := jPo l E y) (jT_node (P := jPo l E y) (jT_leaf (P := jPo l E) (jPo_107 l E) (jPo0 l E y)) (jT_leaf (P := jPo l E) (jPo_108 l E) (jPo0 l E y))) (jT_node (P := jPo l E y) (jT_leaf (P := jPo l E) (jPo_109 l E) (jPo0 l E y)) (jT_leaf (P := jPo l E) (jPo_110 l E) (jPo0 l E y))))) (jT_node (P := jPo l E y) (jT_node (P := jPo l E y) (jT_node (P := jPo l E y) (jT_leaf (P := jPo l E) (jPo_111 l E) (jPo0 l E y)) (jT_leaf (P := jPo l E) (jPo_112 l E) (jPo0 l E y))) (jT_node (P := jPo l E y) (jT_leaf (P := jPo l E) (jPo_113 l E) (jPo0 l E y)) (jT_leaf (P := jPo l E) (jPo_114 l E) (jPo0 l E y)))) (jT_node (P := jPo l E y) (jT_node (P := jPo l E y) (jT_leaf (P := jPo l E) (jPo_115 l E) (jPo0 l E y)) (jT_leaf (P := jPo l E) (jPo_116 l E) (jPo0 l E y))) (jT_node (P := jPo l E y) (jT_leaf (P := jPo l E) (jPo_117 l E) (jPo0 l E y)) (jT_leaf (P := jPo l E) (jPo_118 l E) (jPo0 l E y))))))))) (jT_node (P := jPo l E y) (jT_node (P := jPo l E y) (jT_node (P := jPo l E y) (jT_node (P := jPo l E y) (jT_node (P := jPo l E y) (jT_node (P := jPo l E y) (jT_leaf (P := jPo l E) (jPo_119 l E) (jPo0 l E y)) (jT_node (P := jPo l E y) (jT_leaf (P := jPo l E) (jPo_120 l E) (jPo0 l E y)) (jT_leaf (P := jPo l E) (jPo_121 l E) (jPo0 l E y)))) (jT_node (P := jPo l E y) (jT_node (P := jPo l E y) (jT_leaf (P := jPo l E) (jPo_122 l E) (jPo0 l E y)) (jT_leaf (P := jPo l E) (jPo_123 l E) (jPo0 l E y))) (jT_node (P := jPo l E y) (jT_leaf (P := jPo l E) (jPo_124 l E) (jPo0 l E y)) (jT_leaf (P := jPo l E) (jPo_125 l E) (jPo0 l E y))))) (jT_node (P := jPo l E y) (jT_node (P := jPo l E y) (jT_node (P := jPo l E y) (jT_leaf (P := jPo l E) (jPo_126 l E) (jPo0 l E y)) (jT_leaf (P := jPo l E) (jPo_127 l E) (jPo0 l E y))) (jT_node (P := jPo l E y) (jT_leaf (P := jPo l E) (jPo_128 l E) (jPo0 l E y)) (jT_leaf (P := jPo l E) (jPo_129 l E) (jPo0 l E y)))) (jT_node (P := jPo l E y) (jT_node (P := jPo l E y) (jT_leaf (P := jPo l E) (jPo_130 l E) (jPo0 l E y)) (jT_leaf (P := jPo l E) (jPo_131 l E) (jPo0 l E y))) (jT_node (P := jPo l E y) (jT_leaf (P := jPo l E) (jPo_132 l E) (jPo0 l E y)) (jT_leaf (P := jPo l E) (jPo_133 l E) (jPo0 l E y)))))) (jT_node (P := jPo l E y) (jT_node (P := jPo l E y) (jT_node (P := jPo l E y) (jT_leaf (P := jPo l E) (jPo_134 l E) (jPo0 l E y)) (jT_node (P := jPo l E y) (jT_leaf (P := jPo l E) (jPo_135 l E) (jPo0 l E y)) (jT_leaf (P := jPo l E) (jPo_136 l E) (jPo0 l E y)))) (jT_node (P := jPo l E y) (jT_node (P := jPo l E y) (jT_leaf (P := jPo l E) (jPo_137 l E) (jPo0 l E y)) (jT_leaf (P := jPo l E) (jPo_138 l E) (jPo0 l E y))) (jT_node (P := jPo l E y) (jT_leaf (P := jPo l E) (jPo_139 l E) (jPo0 l E y)) (jT_leaf (P := jPo l E) (jPo_140 l E) (jPo0 l E y))))) (jT_node (P := jPo l E y) (jT_node (P := jPo l E y) (jT_node (P := jPo l E y) (jT_leaf (P := jPo l E) (jPo_141 l E) (jPo0 l E y)) (jT_leaf (P := jPo l E) (jPo_142 l E) (jPo0 l E y))) (jT_node (P := jPo l E y) (jT_leaf (P := jPo l E) (jPo_200 l E) (jPo0 l E y)) (jT_leaf (P := jPo l E) (jPo_201 l E) (jPo0 l E y)))) (jT_node (P := jPo l E y) (jT_node (P := jPo l E y) (jT_leaf (P := jPo l E) (jPo_202 l E) (jPo0 l E y)) (jT_leaf (P := jPo l E) (jPo_203 l E) (jPo0 l E y))) (jT_node (P := jPo l E y) (jT_leaf (P := jPo l E) (jPo_204 l E) (jPo0 l E y)) (jT_leaf (P := jPo l E) (jPo_205 l E) (jPo0 l E y))))))) (jT_node (P := jPo l E y) (jT_node (P := jPo l E y) (jT_node (P := jPo l E y) (jT_node (P := jPo l E y) (jT_leaf (P := jPo l E) (jPo_206 l E) (jPo0 l E y)) (jT_node (P := jPo l E y) (jT_leaf (P := jPo l E) (jPo_207 l E) (jPo0 l E y)) (jT_leaf (P := jPo l E) (jPo_208 l E) (jPo0 l E y)))) (jT_node (P := jPo l E y) (jT_node (P := jPo l E y) (jT_leaf (P := jPo l E) (jPo_209 l E) (jPo0 l E y)) (jT_leaf (P := jPo l E) (jPo_210 l E) (jPo0 l E y))) (jT_node (P := jPo l E y) (jT_leaf (P := jPo l E) (jPo_211 l E) (jPo0 l E y)) (jT_leaf (P := jPo l E) (jPo_212 l E) (jPo0 l E y))))) (jT_node (P := jPo l E y) (jT_node (P := jPo l E y) (jT_node (P := jPo l E y) (jT_leaf (P := jPo l E) (jPo_213 l E) (jPo0 l E y)) (jT_leaf (P := jPo l E) (jPo_214 l E) (jPo0 l E y))) (jT_node (P := jPo l E y) (jT_leaf (P := jPo l E) (jPo_215 l E) (jPo0 l E y)) (jT_leaf (P := jPo l E) (jPo_216 l E) (jPo0 l E y)))) (jT_node (P := jPo l E y) (jT_node (P := jPo l E y) (jT_leaf (P := jPo l E) (jPo_217 l E) (jPo0 l E y)) (jT_leaf (P := jPo l E) (jPo_218 l E) (jPo0 l E y))) (jT_node (P := jPo l E y) (jT_leaf (P := jPo l E) (jPo_219 l E) (jPo0 l E y)) (jT_leaf (P := jPo l E) (jPo_220 l E) (jPo0 l E y)))))) (jT_node (P := jPo l E y) (jT_node (P := jPo l E y) (jT_node (P := jPo l E y) (jT_leaf (P := jPo l E) (jPo_221 l E) (jPo0 l E y)) (jT_node (P := jPo l E y) (jT_leaf (P := jPo l E) (jPo_222 l E) (jPo0 l E y)) (jT_leaf (P := jPo l E) (jPo_223 l E) (jPo0 l E y)))) (jT_node (P := jPo l E y) (jT_node (P := jPo l E y) (jT_leaf (P := jPo l E) (jPo_224 l E) (jPo0 l E y)) (jT_leaf (P := jPo l E) (jPo_225 l E) (jPo0 l E y))) (jT_node (P := jPo l E y) (jT_leaf (P := jPo l E) (jPo_226 l E) (jPo0 l E y)) (jT_leaf (P := jPo l E) (jPo_227 l E) (jPo0 l E y))))) (jT_node (P := jPo l E y) (jT_node (P := jPo l E y) (jT_node (P := jPo l E y) (jT_leaf (P := jPo l E) (jPo_228 l E) (jPo0 l E y)) (jT_leaf (P := jPo l E) (jPo_229 l E) (jPo0 l E y))) (jT_node (P := jPo l E y) (jT_leaf (P := jPo l E) (jPo_230 l E) (jPo0 l E y)) (jT_leaf (P := jPo l E) (jPo_231 l E) (jPo0 l E y)))) (jT_node (P := jPo l E y) (jT_node (P := jPo l E y) (jT_leaf (P := jPo l E) (jPo_232 l E) (jPo0 l E y)) (jT_leaf (P := jPo l E) (jPo_233 l E) (jPo0 l E y))) (jT_node (P := jPo l E y) (jT_leaf (P := jPo l E) (jPo_234 l E) (jPo0 l E y)) (jT_leaf (P := jPo l E) (jPo_235 l E) (jPo0 l E y)))))))) (jT_node (P := jPo l E y) (jT_node (P := jPo l E y) (jT_node (P := jPo l E y) (jT_node (P := jPo l E y) (jT_node (P := jPo l E y) (jT_leaf (P := jPo l E) (jPo_236 l E) (jPo0 l E y)) (jT_node (P := jPo l E y) (jT_leaf (P := jPo l E) (jPo_237 l E) (jPo0 l E y)) (jT_leaf (P := jPo l E) (jPo_238 l E) (jPo0 l E y)))) (jT_node (P := jPo l E y) (jT_node (P := jPo l E y) (jT_leaf (P := jPo l E) (jPo_239 l E) (jPo0 l E y)) (jT_leaf (P := jPo l E) (jPo_240 l E) (jPo0 l E y))) (jT_node (P := jPo l E y) (jT_leaf (P := jPo l E) (jPo_241 l E) (jPo0 l E y)) (jT_leaf (P := jPo l E) (jPo_242 l E) (jPo0 l E y))))) (jT_node (P := jPo l E y) (jT_node (P := jPo l E y) (jT_node (P := jPo l E y) (jT_leaf (P := jPo l E) (jPo_243 l E) (jPo0 l E y)) (jT_leaf (P := jPo l E) (jPo_244 l E) (jPo0 l E y))) (jT_node (P := jPo l E y) (jT_leaf (P := jPo l E) (jPo_245 l E) (jPo0 l E y)) (jT_leaf (P := jPo l E) (jPo_246 l E) (jPo0 l E y)))) (jT_node (P := jPo l E y) (jT_node (P := jPo l E y) (jT_leaf (P := jPo l E) (jPo_247 l E) (jPo0 l E y)) (jT_leaf (P := jPo l E) (jPo_248 l E) (jPo0 l E y))) (jT_node (P := jPo l E y) (jT_leaf (P := jPo l E) (jPo_249 l E) (jPo0 l E y)) (jT_leaf (P := jPo l E) (jPo_250 l E) (jPo0 l E y)))))) (jT_node (P := jPo l E y) (jT_node (P := jPo l E y) (jT_node (P := jPo l E y) (jT_leaf (P := jPo l E) (jPo_251 l E) (jPo0 l E y)) (jT_node (P := jPo l E y) (jT_leaf (P := jPo l E) (jPo_252 l E) (jPo0 l E y)) (jT_leaf (P := jPo l E) (jPo_253 l E) (jPo0 l E y)))) (jT_node (P := jPo l E y) (jT_node (P := jPo l E y) (jT_leaf (P := jPo l E) (jPo_254 l E) (jPo0 l E y)) (jT_leaf (P := jPo l E) (jPo_255 l E) (jPo0 l E y))) (jT_node (P := jPo l E y) (jT_leaf (P := jPo l E) (jPo_256 l E) (jPo0 l E y)) (jT_leaf (P := jPo l E) (jPo_257 l E) (jPo0 l E y))))) (jT_node (P := jPo l E y) (jT_node (P := jPo l E y) (jT_node (P := jPo l E y) (jT_leaf (P := jPo l E) (jPo_258 l E) (jPo0 l E y)) (jT_leaf (P := jPo l E) (jPo_259 l E) (jPo0 l E y))) (jT_node (P := jPo l E y) (jT_leaf (P := jPo l E) (jPo_260 l E) (jPo0 l E y)) (jT_leaf (P := jPo l E) (jPo_261 l E) (jPo0 l E y)))) (jT_node (P := jPo l E y) (jT_node (P := jPo l E y) (jT_leaf (P := jPo l E) (jPo_262 l E) (jPo0 l E y)) (jT_leaf (P := jPo l E) (jPo_263 l E) (jPo0 l E y))) (jT_node (P := jPo l E y) (jT_leaf (P := jPo l E) (jPo_264 l E) (jPo0 l E y)) (jT_leaf (P := jPo l E) (jPo_265 l E) (jPo0 l E y))))))) (jT_node (P := jPo l E y) (jT_node (P := jPo l E y) (jT_node (P := jPo l E y) (jT_node (P := jPo l E y) (jT_leaf (P := jPo l E) (jPo_266 l E) (jPo0 l E y)) (jT_node (P := jPo l E y) (jT_leaf (P := jPo l E) (jPo_267 l E) (jPo0 l E y)) (jT_leaf (P := jPo l E) (jPo_268 l E) (jPo0 l E y)))) (jT_node (P := jPo l E y) (jT_node (P := jPo l E y) (jT_leaf (P := jPo l E) (jPo_269 l E) (jPo0 l E y)) (jT_leaf (P := jPo l E) (jPo_270 l E) (jPo0 l E y))) (jT_node (P := jPo l E y) (jT_leaf (P := jPo l E) (jPo_271 l E) (jPo0 l E y)) (jT_leaf (P := jPo l E) (jPo_272 l E) (jPo0 l E y))))) (jT_node (P := jPo l E y) (jT_node (P := jPo l E y) (jT_node (P := jPo l E y) (jT_leaf (P := jPo l E) (jPo_273 l E) (jPo0 l E y)) (jT_leaf (P := jPo l E) (jPo_274 l E) (jPo0 l E y))) (jT_node (P := jPo l E y) (jT_leaf (P := jPo l E) (jPo_275 l E) (jPo0 l E y)) (jT_leaf (P := jPo l E) (jPo_276 l E) (jPo0 l E y)))) (jT_node (P := jPo l E y) (jT_node (P := jPo l E y) (jT_leaf (P := jPo l E) (jPo_277 l E) (jPo0 l E y)) (jT_leaf (P := jPo l E) (jPo_278 l E) (jPo0 l E y))) (jT_node (P := jPo l E y) (jT_leaf (P := jPo l E) (jPo_279 l E) (jPo0 l E y)) (jT_leaf (P := jPo l E) (jPo_280 l E) (jPo0 l E y)))))) (jT_node (P := jPo l E y) (jT_node (P := jPo l E y) (jT_node (P := jPo l E y) (jT_leaf (P := jPo l E) (jPo_281 l E) (jPo0 l E y)) (jT_node (P := jPo l E y) (jT_leaf (P := jPo l E) (jPo_282 l E) (jPo0 l E y)) (jT_leaf (P := jPo l E) (jPo_283 l E) (jPo0 l E y)))) (jT_node (P := jPo l E y) (jT_node (P := jPo l E y) (jT_leaf (P := jPo l E) (jPo_284 l E) (jPo0 l E y)) (jT_leaf (P := jPo l E) (jPo_285 l E) (jPo0 l E y))) (jT_node (P := jPo l E y) (jT_leaf (P := jPo l E) (jPo_286 l E) (jPo0 l E y)) (jT_leaf (P := jPo l E) (jPo_300 l E) (jPo0 l E y))))) (jT_node (P := jPo l E y) (jT_node (P := jPo l E y) (jT_node (P := jPo l E y) (jT_leaf (P := jPo l E) (jPo_301 l E) (jPo0 l E y)) (jT_leaf (P := jPo l E) (jPo_302 l E) (jPo0 l E y))) (jT_node (P := jPo l E y) (jT_leaf (P := jPo l E) (jPo_303 l E) (jPo0 l E y)) (jT_leaf (P := jPo l E) (jPo_304 l E) (jPo0 l E y)))) (jT_node (P := jPo l E y) (jT_node (P := jPo l E y) (jT_leaf (P := jPo l E) (jPo_305 l E) (jPo0 l E y)) (jT_leaf (P := jPo l E) (jPo_306 l E) (jPo0 l E y))) (jT_node (P := jPo l E y) (jT_leaf (P := jPo l E) (jPo_307 l E) (jPo0 l E y)) (jT_leaf (P := jPo l E) (jPo_400 l E) (jPo0 l E y)))))))))))
theorem jpn_0 : plainName "KillingForms" = true := by decide +kernel
theorem jpn_1 : plainName "KillingForms$Bench" = true := by decide +kernel
theorem jpn_2 : plainName "KillingForms$Form" = true := by decide +kernel
theorem jpn_3 : plainName "KillingForms$Parts" = true := by decide +kernel
theorem jpn_4 : plainName "KillingForms$Reader" = true := by decide +kernel
theorem jpn_5 : plainName "KillingForms$Rows" = true := by decide +kernel
theorem jpn_6 : plainName "KillingForms$Steps" = true := by decide +kernel
theorem jpn_7 : plainName "KillingForms$Table" = true := by decide +kernel
theorem jpn_8 : plainName "KillingForms$Tape" = true := by decide +kernel
theorem jpn_9 : plainName "KillingForms$Writer" = true := by decide +kernel
theorem jpn_10 : plainName "KillingFormsLaw" = true := by decide +kernel
theorem jpn_11 : plainName "KillingFormsModel" = true := by decide +kernel
theorem jpn_12 : plainName "java/lang/Integer" = true := by decide +kernel
theorem jpn_13 : plainName "java/lang/String" = true := by decide +kernel
theorem jpn_14 : plainName "java/lang/StringLatin1" = true := by decide +kernel
theorem jpn_15 : plainName "jdk/internal/util/Preconditions" = true := by decide +kernel
def jPn (m : MethodName) : Prop := plainName m.cls = true
set_option maxRecDepth 20000 in
theorem jC_pn : ∀ y, jRet y := fun y => (show jPn (jnm y) from (jT_node (P := jPn) (jT_node (P := jPn) (jT_node (P := jPn) (jT_node (P := jPn) (jT_node (P := jPn) (jT_node (P := jPn) (jT_node (P := jPn) (jT_node (P := jPn) jpn_0 jpn_10) (jT_node (P := jPn) (jT_node (P := jPn) jpn_0 jpn_10) (jT_node (P := jPn) jpn_0 jpn_10))) (jT_node (P := jPn) (jT_node (P := jPn) (jT_node (P := jPn) jpn_0 jpn_10) (jT_node (P := jPn) jpn_0 jpn_10)) (jT_node (P := jPn) (jT_node (P := jPn) jpn_0 jpn_10) (jT_node (P := jPn) jpn_0 jpn_10)))) (jT_node (P := jPn) (jT_node (P := jPn) (jT_node (P := jPn) jpn_0 jpn_10) (jT_node (P := jPn) (jT_node (P := jPn) jpn_0 jpn_10) (jT_node (P := jPn) jpn_0 jpn_10))) (jT_node (P := jPn) (jT_node (P := jPn) (jT_node (P := jPn) jpn_0 jpn_10) (jT_node (P := jPn) jpn_0 jpn_10)) (jT_node (P := jPn) (jT_node (P := jPn) jpn_0 jpn_10) (jT_node (P := jPn) jpn_0 jpn_10))))) (jT_node (P := jPn) (jT_node (P := jPn) (jT_node (P := jPn) (jT_node (P := jPn) jpn_0 jpn_10) (jT_node (P := jPn) (jT_node (P := jPn) jpn_0 jpn_10) (jT_node (P := jPn) jpn_0 jpn_10))) (jT_node (P := jPn) (jT_node (P := jPn) (jT_node (P := jPn) jpn_0 jpn_10) (jT_node (P := jPn) jpn_0 jpn_10)) (jT_node (P := jPn) (jT_node (P := jPn) jpn_0 jpn_10) (jT_node (P := jPn) jpn_0 jpn_10)))) (jT_node (P := jPn) (jT_node (P := jPn) (jT_node (P := jPn) (jT_node (P := jPn) jpn_0 jpn_10) (jT_node (P := jPn) jpn_0 jpn_10)) (jT_node (P := jPn) (jT_node (P := jPn) jpn_0 jpn_10) (jT_node (P := jPn) jpn_0 jpn_10))) (jT_node (P := jPn) (jT_node (P := jPn) (jT_node (P := jPn) jpn_0 jpn_10) (jT_node (P := jPn) jpn_0 jpn_10)) (jT_node (P := jPn) (jT_node (P := jPn) jpn_0 jpn_10) (jT_node (P := jPn) jpn_0 jpn_10)))))) (jT_node (P := jPn) (jT_node (P := jPn) (jT_node (P := jPn) (jT_node (P := jPn) (jT_node (P := jPn) jpn_0 jpn_10) (jT_node (P := jPn) (jT_node (P := jPn) jpn_0 jpn_10) (jT_node (P := jPn) jpn_0 jpn_10))) (jT_node (P := jPn) (jT_node (P := jPn) (jT_node (P := jPn) jpn_0 jpn_10) (jT_node (P := jPn) jpn_0 jpn_10)) (jT_node (P := jPn) (jT_node (P := jPn) jpn_0 jpn_10) (jT_node (P := jPn) jpn_0 jpn_10)))) (jT_node (P := jPn) (jT_node (P := jPn) (jT_node (P := jPn) (jT_node (P := jPn) jpn_0 jpn_10) (jT_node (P := jPn) jpn_0 jpn_10)) (jT_node (P := jPn) (jT_node (P := jPn) jpn_0 jpn_10) (jT_node (P := jPn) jpn_0 jpn_10))) (jT_node (P := jPn) (jT_node (P := jPn) (jT_node (P := jPn) jpn_0 jpn_10) (jT_node (P := jPn) jpn_0 jpn_10)) (jT_node (P := jPn) (jT_node (P := jPn) jpn_0 jpn_10) (jT_node (P := jPn) jpn_0 jpn_10))))) (jT_node (P := jPn) (jT_node (P := jPn) (jT_node (P := jPn) (jT_node (P := jPn) jpn_0 jpn_10) (jT_node (P := jPn) (jT_node (P := jPn) jpn_0 jpn_10) (jT_node (P := jPn) jpn_0 jpn_10))) (jT_node (P := jPn) (jT_node (P := jPn) (jT_node (P := jPn) jpn_0 jpn_10) (jT_node (P := jPn) jpn_0 jpn_10)) (jT_node (P := jPn) (jT_node (P := jPn) jpn_0 jpn_10) (jT_node (P := jPn) jpn_0 jpn_10)))) (jT_node (P := jPn) (jT_node (P := jPn) (jT_node (P := jPn) (jT_node (P := jPn) jpn_0 jpn_10) (jT_node (P := jPn) jpn_0 jpn_10)) (jT_node (P := jPn) (jT_node (P := jPn) jpn_0 jpn_10) (jT_node (P := jPn) jpn_0 jpn_10))) (jT_node (P := jPn) (jT_node (P := jPn) (jT_node (P := jPn) jpn_1 jpn_10) (jT_node (P := jPn) jpn_1 jpn_10)) (jT_node (P := jPn) (jT_node (P := jPn) jpn_1 jpn_10) (jT_node (P := jPn) jpn_1 jpn_10))))))) (jT_node (P := jPn) (jT_node (P := jPn) (jT_node (P := jPn) (jT_node (P := jPn) (jT_node (P := jPn) (jT_node (P := jPn) jpn_1 jpn_10) (jT_node (P := jPn) (jT_node (P := jPn) jpn_1 jpn_10) (jT_node (P := jPn) jpn_2 jpn_10))) (jT_node (P := jPn) (jT_node (P := jPn) (jT_node (P := jPn) jpn_2 jpn_10) (jT_node (P := jPn) jpn_2 jpn_10)) (jT_node (P := jPn) (jT_node (P := jPn) jpn_2 jpn_10) (jT_node (P := jPn) jpn_2 jpn_10)))) (jT_node (P := jPn) (jT_node (P := jPn) (jT_node (P := jPn) (jT_node (P := jPn) jpn_2 jpn_10) (jT_node (P := jPn) jpn_2 jpn_10)) (jT_node (P := jPn) (jT_node (P := jPn) jpn_2 jpn_10) (jT_node (P := jPn) jpn_2 jpn_10))) (jT_node (P := jPn) (jT_node (P := jPn) (jT_node (P := jPn) jpn_2 jpn_10) (jT_node (P := jPn) jpn_2 jpn_10)) (jT_node (P := jPn) (jT_node (P := jPn) jpn_2 jpn_10) (jT_node (P := jPn) jpn_2 jpn_10))))) (jT_node (P := jPn) (jT_node (P := jPn) (jT_node (P := jPn) (jT_node (P := jPn) jpn_2 jpn_10) (jT_node (P := jPn) (jT_node (P := jPn) jpn_2 jpn_10) (jT_node (P := jPn) jpn_2 jpn_10))) (jT_node (P := jPn) (jT_node (P := jPn) (jT_node (P := jPn) jpn_2 jpn_10) (jT_node (P := jPn) jpn_2 jpn_10)) (jT_node (P := jPn) (jT_node (P := jPn) jpn_3 jpn_10) (jT_node (P := jPn) jpn_3 jpn_10)))) (jT_node (P := jPn) (jT_node (P := jPn) (jT_node (P := jPn) (jT_node (P := jPn) jpn_3 jpn_10) (jT_node (P := jPn) jpn_3 jpn_10)) (jT_node (P := jPn) (jT_node (P := jPn) jpn_3 jpn_10) (jT_node (P := jPn) jpn_3 jpn_10))) (jT_node (P := jPn) (jT_node (P := jPn) (jT_node (P := jPn) jpn_3 jpn_10) (jT_node (P := jPn) jpn_3 jpn_10)) (jT_node (P := jPn) (jT_node (P := jPn) jpn_3 jpn_10) (jT_node (P := jPn) jpn_3 jpn_10)))))) (jT_node (P := jPn) (jT_node (P := jPn) (jT_node (P := jPn) (jT_node (P := jPn) (jT_node (P := jPn) jpn_4 jpn_10) (jT_node (P := jPn) (jT_node (P := jPn) jpn_4 jpn_10) (jT_node (P := jPn) jpn_4 jpn_10))) (jT_node (P := jPn) (jT_node (P := jPn) (jT_node (P := jPn) jpn_4 jpn_10) (jT_node (P := jPn) jpn_4 jpn_10)) (jT_node (P := jPn) (jT_node (P := jPn) jpn_4 jpn_10) (jT_node (P := jPn) jpn_4 jpn_10)))) (jT_node (P := jPn) (jT_node (P := jPn) (jT_node (P := jPn) (jT_node (P := jPn) jpn_4 jpn_10) (jT_node (P := jPn) jpn_4 jpn_10)) (jT_node (P := jPn) (jT_node (P := jPn) jpn_4 jpn_10) (jT_node (P := jPn) jpn_4 jpn_10))) (jT_node (P := jPn) (jT_node (P := jPn) (jT_node (P := jPn) jpn_4 jpn_10) (jT_node (P := jPn) jpn_4 jpn_10)) (jT_node (P := jPn) (jT_node (P := jPn) jpn_4 jpn_10) (jT_node (P := jPn) jpn_4 jpn_10))))) (jT_node (P := jPn) (jT_node (P := jPn) (jT_node (P := jPn) (jT_node (P := jPn) jpn_4 jpn_10) (jT_node (P := jPn) (jT_node (P := jPn) jpn_4 jpn_10) (jT_node (P := jPn) jpn_4 jpn_10))) (jT_node (P := jPn) (jT_node (P := jPn) (jT_node (P := jPn) jpn_4 jpn_10) (jT_node (P := jPn) jpn_4 jpn_10)) (jT_node (P := jPn) (jT_node (P := jPn) jpn_4 jpn_10) (jT_node (P := jPn) jpn_4 jpn_10)))) (jT_node (P := jPn) (jT_node (P := jPn) (jT_node (P := jPn) (jT_node (P := jPn) jpn_4 jpn_10) (jT_node (P := jPn) jpn_5 jpn_10)) (jT_node (P := jPn) (jT_node (P := jPn) jpn_5 jpn_10) (jT_node (P := jPn) jpn_5 jpn_10))) (jT_node (P := jPn) (jT_node (P := jPn) (jT_node (P := jPn) jpn_5 jpn_10) (jT_node (P := jPn) jpn_5 jpn_10)) (jT_node (P := jPn) (jT_node (P := jPn) jpn_5 jpn_10) (jT_node (P := jPn) jpn_5 jpn_10)))))))) (jT_node (P := jPn) (jT_node (P := jPn) (jT_node (P := jPn) (jT_node (P := jPn) (jT_node (P := jPn) (jT_node (P := jPn) (jT_node (P := jPn) jpn_5 jpn_10) (jT_node (P := jPn) (jT_node (P := jPn) jpn_6 jpn_10) (jT_node (P := jPn) jpn_6 jpn_10))) (jT_node (P := jPn) (jT_node (P := jPn) (jT_node (P := jPn) jpn_6 jpn_10) (jT_node (P := jPn) jpn_7 jpn_10)) (jT_node (P := jPn) (jT_node (P := jPn) jpn_7 jpn_10) (jT_node (P := jPn) jpn_7 jpn_10)))) (jT_node (P := jPn) (jT_node (P := jPn) (jT_node (P := jPn) jpn_7 jpn_10) (jT_node (P := jPn) (jT_node (P := jPn) jpn_7 jpn_10) (jT_node (P := jPn) jpn_7 jpn_10))) (jT_node (P := jPn) (jT_node (P := jPn) (jT_node (P := jPn) jpn_7 jpn_10) (jT_node (P := jPn) jpn_7 jpn_10)) (jT_node (P := jPn) (jT_node (P := jPn) jpn_7 jpn_10) (jT_node (P := jPn) jpn_7 jpn_10))))) (jT_node (P := jPn) (jT_node (P := jPn) (jT_node (P := jPn) (jT_node (P := jPn) jpn_7 jpn_10) (jT_node (P := jPn) (jT_node (P := jPn) jpn_7 jpn_10) (jT_node (P := jPn) jpn_8 jpn_10))) (jT_node (P := jPn) (jT_node (P := jPn) (jT_node (P := jPn) jpn_8 jpn_10) (jT_node (P := jPn) jpn_9 jpn_10)) (jT_node (P := jPn) (jT_node (P := jPn) jpn_9 jpn_10) (jT_node (P := jPn) jpn_9 jpn_10)))) (jT_node (P := jPn) (jT_node (P := jPn) (jT_node (P := jPn) (jT_node (P := jPn) jpn_9 jpn_10) (jT_node (P := jPn) jpn_9 jpn_10)) (jT_node (P := jPn) (jT_node (P := jPn) jpn_9 jpn_10) (jT_node (P := jPn) jpn_11 jpn_10))) (jT_node (P := jPn) (jT_node (P := jPn) (jT_node (P := jPn) jpn_11 jpn_10) (jT_node (P := jPn) jpn_11 jpn_10)) (jT_node (P := jPn) (jT_node (P := jPn) jpn_11 jpn_10) (jT_node (P := jPn) jpn_11 jpn_10)))))) (jT_node (P := jPn) (jT_node (P := jPn) (jT_node (P := jPn) (jT_node (P := jPn) (jT_node (P := jPn) jpn_11 jpn_10) (jT_node (P := jPn) (jT_node (P := jPn) jpn_11 jpn_10) (jT_node (P := jPn) jpn_11 jpn_10))) (jT_node (P := jPn) (jT_node (P := jPn) (jT_node (P := jPn) jpn_11 jpn_10) (jT_node (P := jPn) jpn_11 jpn_10)) (jT_node (P := jPn) (jT_node (P := jPn) jpn_11 jpn_10) (jT_node (P := jPn) jpn_11 jpn_10)))) (jT_node (P := jPn) (jT_node (P := jPn) (jT_node (P := jPn) (jT_node (P := jPn) jpn_11 jpn_10) (jT_node (P := jPn) jpn_11 jpn_10)) (jT_node (P := jPn) (jT_node (P := jPn) jpn_11 jpn_10) (jT_node (P := jPn) jpn_11 jpn_10))) (jT_node (P := jPn) (jT_node (P := jPn) (jT_node (P := jPn) jpn_11 jpn_10) (jT_node (P := jPn) jpn_11 jpn_10)) (jT_node (P := jPn) (jT_node (P := jPn) jpn_11 jpn_10) (jT_node (P := jPn) jpn_11 jpn_10))))) (jT_node (P := jPn) (jT_node (P := jPn) (jT_node (P := jPn) (jT_node (P := jPn) jpn_11 jpn_10) (jT_node (P := jPn) (jT_node (P := jPn) jpn_11 jpn_10) (jT_node (P := jPn) jpn_11 jpn_10))) (jT_node (P := jPn) (jT_node (P := jPn) (jT_node (P := jPn) jpn_11 jpn_10) (jT_node (P := jPn) jpn_11 jpn_10)) (jT_node (P := jPn) (jT_node (P := jPn) jpn_11 jpn_10) (jT_node (P := jPn) jpn_11 jpn_10)))) (jT_node (P := jPn) (jT_node (P := jPn) (jT_node (P := jPn) (jT_node (P := jPn) jpn_11 jpn_10) (jT_node (P := jPn) jpn_11 jpn_10)) (jT_node (P := jPn) (jT_node (P := jPn) jpn_11 jpn_10) (jT_node (P := jPn) jpn_11 jpn_10))) (jT_node (P := jPn) (jT_node (P := jPn) (jT_node (P := jPn) jpn_11 jpn_10) (jT_node (P := jPn) jpn_11 jpn_10)) (jT_node (P := jPn) (jT_node (P := jPn) jpn_11 jpn_10) (jT_node (P := jPn) jpn_11 jpn_10))))))) (jT_node (P := jPn) (jT_node (P := jPn) (jT_node (P := jPn) (jT_node (P := jPn) (jT_node (P := jPn) (jT_node (P := jPn) jpn_11 jpn_10) (jT_node (P := jPn) (jT_node (P := jPn) jpn_11 jpn_10) (jT_node (P := jPn) jpn_11 jpn_10))) (jT_node (P := jPn) (jT_node (P := jPn) (jT_node (P := jPn) jpn_11 jpn_10) (jT_node (P := jPn) jpn_11 jpn_10)) (jT_node (P := jPn) (jT_node (P := jPn) jpn_11 jpn_10) (jT_node (P := jPn) jpn_11 jpn_10)))) (jT_node (P := jPn) (jT_node (P := jPn) (jT_node (P := jPn) (jT_node (P := jPn) jpn_11 jpn_10) (jT_node (P := jPn) jpn_11 jpn_10)) (jT_node (P := jPn) (jT_node (P := jPn) jpn_11 jpn_10) (jT_node (P := jPn) jpn_11 jpn_10))) (jT_node (P := jPn) (jT_node (P := jPn) (jT_node (P := jPn) jpn_11 jpn_10) (jT_node (P := jPn) jpn_11 jpn_10)) (jT_node (P := jPn) (jT_node (P := jPn) jpn_11 jpn_10) (jT_node (P := jPn) jpn_11 jpn_10))))) (jT_node (P := jPn) (jT_node (P := jPn) (jT_node (P := jPn) (jT_node (P := jPn) jpn_11 jpn_10) (jT_node (P := jPn) (jT_node (P := jPn) jpn_11 jpn_10) (jT_node (P := jPn) jpn_11 jpn_10))) (jT_node (P := jPn) (jT_node (P := jPn) (jT_node (P := jPn) jpn_11 jpn_10) (jT_node (P := jPn) jpn_11 jpn_10)) (jT_node (P := jPn) (jT_node (P := jPn) jpn_11 jpn_10) (jT_node (P := jPn) jpn_11 jpn_10)))) (jT_node (P := jPn) (jT_node (P := jPn) (jT_node (P := jPn) (jT_node (P := jPn) jpn_11 jpn_10) (jT_node (P := jPn) jpn_11 jpn_10)) (jT_node (P := jPn) (jT_node (P := jPn) jpn_11 jpn_10) (jT_node (P := jPn) jpn_11 jpn_10))) (jT_node (P := jPn) (jT_node (P := jPn) (jT_node (P := jPn) jpn_11 jpn_10) (jT_node (P := jPn) jpn_11 jpn_10)) (jT_node (P := jPn) (jT_node (P := jPn) jpn_11 jpn_10) (jT_node (P := jPn) jpn_11 jpn_10)))))) (jT_node (P := jPn) (jT_node (P := jPn) (jT_node (P := jPn) (jT_node (P := jPn) (jT_node (P := jPn) jpn_11 jpn_10) (jT_node (P := jPn) (jT_node (P := jPn) jpn_11 jpn_10) (jT_node (P := jPn) jpn_11 jpn_10))) (jT_node (P := jPn) (jT_node (P := jPn) (jT_node (P := jPn) jpn_11 jpn_10) (jT_node (P := jPn) jpn_11 jpn_10)) (jT_node (P := jPn) (jT_node (P := jPn) jpn_11 jpn_10) (jT_node (P := jPn) jpn_11 jpn_10)))) (jT_node (P := jPn) (jT_node (P := jPn) (jT_node (P := jPn) (jT_node (P := jPn) jpn_11 jpn_10) (jT_node (P := jPn) jpn_11 jpn_10)) (jT_node (P := jPn) (jT_node (P := jPn) jpn_11 jpn_10) (jT_node (P := jPn) jpn_11 jpn_10))) (jT_node (P := jPn) (jT_node (P := jPn) (jT_node (P := jPn) jpn_11 jpn_10) (jT_node (P := jPn) jpn_11 jpn_10)) (jT_node (P := jPn) (jT_node (P := jPn) jpn_11 jpn_10) (jT_node (P := jPn) jpn_11 jpn_10))))) (jT_node (P := jPn) (jT_node (P := jPn) (jT_node (P := jPn) (jT_node (P := jPn) jpn_11 jpn_10) (jT_node (P := jPn) (jT_node (P := jPn) jpn_11 jpn_10) (jT_node (P := jPn) jpn_11 jpn_10))) (jT_node (P := jPn) (jT_node (P := jPn) (jT_node (P := jPn) jpn_11 jpn_10) (jT_node (P := jPn) jpn_11 jpn_10)) (jT_node (P := jPn) (jT_node (P := jPn) jpn_11 jpn_10) (jT_node (P := jPn) jpn_11 jpn_10)))) (jT_node (P := jPn) (jT_node (P := jPn) (jT_node (P := jPn) (jT_node (P := jPn) jpn_12 jpn_10) (jT_node (P := jPn) jpn_13 jpn_10)) (jT_node (P := jPn) (jT_node (P := jPn) jpn_13 jpn_10) (jT_node (P := jPn) jpn_13 jpn_10))) (jT_node (P := jPn) (jT_node (P := jPn) (jT_node (P := jPn) jpn_13 jpn_10) (jT_node (P := jPn) jpn_13 jpn_10)) (jT_node (P := jPn) (jT_node (P := jPn) jpn_14 jpn_10) (jT_node (P := jPn) jpn_15 jpn_10))))))))))
noncomputable def je (y pc : Nat) (ls : jS) (st : List jV) (s : jM) : Option jR := jev jcode jml y pc ls st s
noncomputable def jq (y : Nat) (as : List jV) (s : jM) : Option jR := jcl jcode jml y as s
theorem jev_rg {y : Nat} {Cy : Nat → jO} (hy : jcode y = Cy) (cut : Nat → Bool) (n pc : Nat) (ls : jS) (st : List jV) (s : jM) : je y pc ls st s = jrg cut Cy (jcl jcode jml) (jev jcode jml y) n pc ls st s := by
  subst hy
  exact jev_rk jC_sh cut y n pc ls st s
