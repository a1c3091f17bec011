/-! the reference, further methods -/
theorem dX6_bracket_0 : decode cX6_bracket 0 = .ok (.aload_n 0, 1) := by decide +kernel
theorem dX6_bracket_1 : decode cX6_bracket 1 = .ok (.getfield 126, 3) := by decide +kernel
theorem dX6_bracket_4 : decode cX6_bracket 4 = .ok (.iconst 4, 1) := by decide +kernel
theorem dX6_bracket_5 : decode cX6_bracket 5 = .ok (.if_icmp .ne 5, 3) := by decide +kernel
theorem dX6_bracket_8 : decode cX6_bracket 8 = .ok (.iconst 0, 1) := by decide +kernel
theorem dX6_bracket_9 : decode cX6_bracket 9 = .ok (.ireturn, 1) := by decide +kernel
theorem dX6_bracket_10 : decode cX6_bracket 10 = .ok (.bipush 8, 2) := by decide +kernel
theorem dX6_bracket_12 : decode cX6_bracket 12 = .ok (.istore_n 1, 1) := by decide +kernel
theorem dX6_bracket_13 : decode cX6_bracket 13 = .ok (.iconst 1, 1) := by decide +kernel
theorem dX6_bracket_14 : decode cX6_bracket 14 = .ok (.istore_n 2, 1) := by decide +kernel
theorem dX6_bracket_15 : decode cX6_bracket 15 = .ok (.aload_n 0, 1) := by decide +kernel
theorem dX6_bracket_16 : decode cX6_bracket 16 = .ok (.iconst 1, 1) := by decide +kernel
theorem dX6_bracket_17 : decode cX6_bracket 17 = .ok (.invokevirtual 147, 3) := by decide +kernel
theorem dX6_bracket_20 : decode cX6_bracket 20 = .ok (.bipush 63, 2) := by decide +kernel
theorem dX6_bracket_22 : decode cX6_bracket 22 = .ok (.if_icmp .ne 120, 3) := by decide +kernel
theorem dX6_bracket_25 : decode cX6_bracket 25 = .ok (.aload_n 0, 1) := by decide +kernel
theorem dX6_bracket_26 : decode cX6_bracket 26 = .ok (.iconst 2, 1) := by decide +kernel
theorem dX6_bracket_27 : decode cX6_bracket 27 = .ok (.invokevirtual 147, 3) := by decide +kernel
theorem dX6_bracket_30 : decode cX6_bracket 30 = .ok (.istore_n 3, 1) := by decide +kernel
theorem dX6_bracket_31 : decode cX6_bracket 31 = .ok (.aload_n 0, 1) := by decide +kernel
theorem dX6_bracket_32 : decode cX6_bracket 32 = .ok (.iconst 3, 1) := by decide +kernel
theorem dX6_bracket_33 : decode cX6_bracket 33 = .ok (.invokevirtual 147, 3) := by decide +kernel
theorem dX6_bracket_36 : decode cX6_bracket 36 = .ok (.istore 4, 2) := by decide +kernel
theorem dX6_bracket_38 : decode cX6_bracket 38 = .ok (.iload_n 3, 1) := by decide +kernel
theorem dX6_bracket_39 : decode cX6_bracket 39 = .ok (.bipush 60, 2) := by decide +kernel
theorem dX6_bracket_41 : decode cX6_bracket 41 = .ok (.if_icmp .ne 7, 3) := by decide +kernel
theorem dX6_bracket_44 : decode cX6_bracket 44 = .ok (.iconst 1, 1) := by decide +kernel
theorem dX6_bracket_45 : decode cX6_bracket 45 = .ok (.goto 4, 3) := by decide +kernel
theorem dX6_bracket_48 : decode cX6_bracket 48 = .ok (.iconst 0, 1) := by decide +kernel
theorem dX6_bracket_49 : decode cX6_bracket 49 = .ok (.istore 5, 2) := by decide +kernel
theorem dX6_bracket_51 : decode cX6_bracket 51 = .ok (.iload_n 3, 1) := by decide +kernel
theorem dX6_bracket_52 : decode cX6_bracket 52 = .ok (.bipush 58, 2) := by decide +kernel
theorem dX6_bracket_54 : decode cX6_bracket 54 = .ok (.if_icmp .ne 8, 3) := by decide +kernel
theorem dX6_bracket_57 : decode cX6_bracket 57 = .ok (.bipush 9, 2) := by decide +kernel
theorem dX6_bracket_59 : decode cX6_bracket 59 = .ok (.goto 71, 3) := by decide +kernel
theorem dX6_bracket_62 : decode cX6_bracket 62 = .ok (.iload_n 3, 1) := by decide +kernel
theorem dX6_bracket_63 : decode cX6_bracket 63 = .ok (.bipush 61, 2) := by decide +kernel
theorem dX6_bracket_65 : decode cX6_bracket 65 = .ok (.if_icmp .ne 8, 3) := by decide +kernel
theorem dX6_bracket_68 : decode cX6_bracket 68 = .ok (.bipush 10, 2) := by decide +kernel
theorem dX6_bracket_70 : decode cX6_bracket 70 = .ok (.goto 60, 3) := by decide +kernel
theorem dX6_bracket_73 : decode cX6_bracket 73 = .ok (.iload_n 3, 1) := by decide +kernel
theorem dX6_bracket_74 : decode cX6_bracket 74 = .ok (.bipush 33, 2) := by decide +kernel
theorem dX6_bracket_76 : decode cX6_bracket 76 = .ok (.if_icmp .ne 8, 3) := by decide +kernel
theorem dX6_bracket_79 : decode cX6_bracket 79 = .ok (.bipush 11, 2) := by decide +kernel
theorem dX6_bracket_81 : decode cX6_bracket 81 = .ok (.goto 49, 3) := by decide +kernel
theorem dX6_bracket_84 : decode cX6_bracket 84 = .ok (.iload_n 3, 1) := by decide +kernel
theorem dX6_bracket_85 : decode cX6_bracket 85 = .ok (.bipush 62, 2) := by decide +kernel
theorem dX6_bracket_87 : decode cX6_bracket 87 = .ok (.if_icmp .ne 8, 3) := by decide +kernel
theorem dX6_bracket_90 : decode cX6_bracket 90 = .ok (.bipush 14, 2) := by decide +kernel
theorem dX6_bracket_92 : decode cX6_bracket 92 = .ok (.goto 38, 3) := by decide +kernel
theorem dX6_bracket_95 : decode cX6_bracket 95 = .ok (.iload 5, 2) := by decide +kernel
theorem dX6_bracket_97 : decode cX6_bracket 97 = .ok (.ifCond .eq 15, 3) := by decide +kernel
theorem dX6_bracket_100 : decode cX6_bracket 100 = .ok (.iload 4, 2) := by decide +kernel
theorem dX6_bracket_102 : decode cX6_bracket 102 = .ok (.bipush 61, 2) := by decide +kernel
theorem dX6_bracket_104 : decode cX6_bracket 104 = .ok (.if_icmp .ne 8, 3) := by decide +kernel
theorem dX6_bracket_107 : decode cX6_bracket 107 = .ok (.bipush 12, 2) := by decide +kernel
theorem dX6_bracket_109 : decode cX6_bracket 109 = .ok (.goto 21, 3) := by decide +kernel
theorem dX6_bracket_112 : decode cX6_bracket 112 = .ok (.iload 5, 2) := by decide +kernel
theorem dX6_bracket_114 : decode cX6_bracket 114 = .ok (.ifCond .eq 15, 3) := by decide +kernel
theorem dX6_bracket_117 : decode cX6_bracket 117 = .ok (.iload 4, 2) := by decide +kernel
theorem dX6_bracket_119 : decode cX6_bracket 119 = .ok (.bipush 33, 2) := by decide +kernel
theorem dX6_bracket_121 : decode cX6_bracket 121 = .ok (.if_icmp .ne 8, 3) := by decide +kernel
theorem dX6_bracket_124 : decode cX6_bracket 124 = .ok (.bipush 13, 2) := by decide +kernel
theorem dX6_bracket_126 : decode cX6_bracket 126 = .ok (.goto 4, 3) := by decide +kernel
theorem dX6_bracket_129 : decode cX6_bracket 129 = .ok (.iconst (-1), 1) := by decide +kernel
theorem dX6_bracket_130 : decode cX6_bracket 130 = .ok (.istore_n 1, 1) := by decide +kernel
theorem dX6_bracket_131 : decode cX6_bracket 131 = .ok (.iload 5, 2) := by decide +kernel
theorem dX6_bracket_133 : decode cX6_bracket 133 = .ok (.ifCond .eq 7, 3) := by decide +kernel
theorem dX6_bracket_136 : decode cX6_bracket 136 = .ok (.iconst 4, 1) := by decide +kernel
theorem dX6_bracket_137 : decode cX6_bracket 137 = .ok (.goto 4, 3) := by decide +kernel
theorem dX6_bracket_140 : decode cX6_bracket 140 = .ok (.iconst 3, 1) := by decide +kernel
theorem dX6_bracket_141 : decode cX6_bracket 141 = .ok (.istore_n 2, 1) := by decide +kernel
theorem dX6_bracket_142 : decode cX6_bracket 142 = .ok (.iload_n 1, 1) := by decide +kernel
theorem dX6_bracket_143 : decode cX6_bracket 143 = .ok (.iconst (-1), 1) := by decide +kernel
theorem dX6_bracket_144 : decode cX6_bracket 144 = .ok (.if_icmp .eq 17, 3) := by decide +kernel
theorem dX6_bracket_147 : decode cX6_bracket 147 = .ok (.iload_n 1, 1) := by decide +kernel
theorem dX6_bracket_148 : decode cX6_bracket 148 = .ok (.bipush 8, 2) := by decide +kernel
theorem dX6_bracket_150 : decode cX6_bracket 150 = .ok (.if_icmp .ne 13, 3) := by decide +kernel
theorem dX6_bracket_153 : decode cX6_bracket 153 = .ok (.aload_n 0, 1) := by decide +kernel
theorem dX6_bracket_154 : decode cX6_bracket 154 = .ok (.getfield 140, 3) := by decide +kernel
theorem dX6_bracket_157 : decode cX6_bracket 157 = .ok (.iconst 4, 1) := by decide +kernel
theorem dX6_bracket_158 : decode cX6_bracket 158 = .ok (.if_icmp .ne 5, 3) := by decide +kernel
theorem dX6_bracket_161 : decode cX6_bracket 161 = .ok (.iconst 0, 1) := by decide +kernel
theorem dX6_bracket_162 : decode cX6_bracket 162 = .ok (.ireturn, 1) := by decide +kernel
theorem dX6_bracket_163 : decode cX6_bracket 163 = .ok (.aload_n 0, 1) := by decide +kernel
theorem dX6_bracket_164 : decode cX6_bracket 164 = .ok (.iload_n 1, 1) := by decide +kernel
theorem dX6_bracket_165 : decode cX6_bracket 165 = .ok (.invokevirtual 123, 3) := by decide +kernel
theorem dX6_bracket_168 : decode cX6_bracket 168 = .ok (.istore_n 3, 1) := by decide +kernel
theorem dX6_bracket_169 : decode cX6_bracket 169 = .ok (.iload_n 1, 1) := by decide +kernel
theorem dX6_bracket_170 : decode cX6_bracket 170 = .ok (.bipush 8, 2) := by decide +kernel
theorem dX6_bracket_172 : decode cX6_bracket 172 = .ok (.if_icmp .ne 23, 3) := by decide +kernel
theorem dX6_bracket_175 : decode cX6_bracket 175 = .ok (.aload_n 0, 1) := by decide +kernel
theorem dX6_bracket_176 : decode cX6_bracket 176 = .ok (.dup, 1) := by decide +kernel
theorem dX6_bracket_177 : decode cX6_bracket 177 = .ok (.getfield 140, 3) := by decide +kernel
theorem dX6_bracket_180 : decode cX6_bracket 180 = .ok (.iconst 1, 1) := by decide +kernel
theorem dX6_bracket_181 : decode cX6_bracket 181 = .ok (.iadd, 1) := by decide +kernel
theorem dX6_bracket_182 : decode cX6_bracket 182 = .ok (.putfield 140, 3) := by decide +kernel
theorem dX6_bracket_185 : decode cX6_bracket 185 = .ok (.aload_n 0, 1) := by decide +kernel
theorem dX6_bracket_186 : decode cX6_bracket 186 = .ok (.getfield 19, 3) := by decide +kernel
theorem dX6_bracket_189 : decode cX6_bracket 189 = .ok (.iload_n 3, 1) := by decide +kernel
theorem dX6_bracket_190 : decode cX6_bracket 190 = .ok (.aload_n 0, 1) := by decide +kernel
theorem dX6_bracket_191 : decode cX6_bracket 191 = .ok (.getfield 140, 3) := by decide +kernel
theorem dX6_bracket_194 : decode cX6_bracket 194 = .ok (.iastore, 1) := by decide +kernel
theorem dX6_bracket_195 : decode cX6_bracket 195 = .ok (.aload_n 0, 1) := by decide +kernel
theorem dX6_bracket_196 : decode cX6_bracket 196 = .ok (.getfield 53, 3) := by decide +kernel
theorem dX6_bracket_199 : decode cX6_bracket 199 = .ok (.aload_n 0, 1) := by decide +kernel
theorem dX6_bracket_200 : decode cX6_bracket 200 = .ok (.getfield 126, 3) := by decide +kernel
theorem dX6_bracket_203 : decode cX6_bracket 203 = .ok (.baload, 1) := by decide +kernel
theorem dX6_bracket_204 : decode cX6_bracket 204 = .ok (.ifCond .ne 15, 3) := by decide +kernel
theorem dX6_bracket_207 : decode cX6_bracket 207 = .ok (.iload_n 1, 1) := by decide +kernel
theorem dX6_bracket_208 : decode cX6_bracket 208 = .ok (.bipush 12, 2) := by decide +kernel
theorem dX6_bracket_210 : decode cX6_bracket 210 = .ok (.if_icmp .eq 9, 3) := by decide +kernel
theorem dX6_bracket_213 : decode cX6_bracket 213 = .ok (.iload_n 1, 1) := by decide +kernel
theorem dX6_bracket_214 : decode cX6_bracket 214 = .ok (.bipush 13, 2) := by decide +kernel
theorem dX6_bracket_216 : decode cX6_bracket 216 = .ok (.if_icmp .ne 7, 3) := by decide +kernel
theorem dX6_bracket_219 : decode cX6_bracket 219 = .ok (.iconst 1, 1) := by decide +kernel
theorem dX6_bracket_220 : decode cX6_bracket 220 = .ok (.goto 4, 3) := by decide +kernel
theorem dX6_bracket_223 : decode cX6_bracket 223 = .ok (.iconst 0, 1) := by decide +kernel
theorem dX6_bracket_224 : decode cX6_bracket 224 = .ok (.istore 4, 2) := by decide +kernel
theorem dX6_bracket_226 : decode cX6_bracket 226 = .ok (.aload_n 0, 1) := by decide +kernel
theorem dX6_bracket_227 : decode cX6_bracket 227 = .ok (.dup, 1) := by decide +kernel
theorem dX6_bracket_228 : decode cX6_bracket 228 = .ok (.getfield 114, 3) := by decide +kernel
theorem dX6_bracket_231 : decode cX6_bracket 231 = .ok (.iload_n 2, 1) := by decide +kernel
theorem dX6_bracket_232 : decode cX6_bracket 232 = .ok (.iadd, 1) := by decide +kernel
theorem dX6_bracket_233 : decode cX6_bracket 233 = .ok (.putfield 114, 3) := by decide +kernel
theorem dX6_bracket_236 : decode cX6_bracket 236 = .ok (.aload_n 0, 1) := by decide +kernel
theorem dX6_bracket_237 : decode cX6_bracket 237 = .ok (.dup, 1) := by decide +kernel
theorem dX6_bracket_238 : decode cX6_bracket 238 = .ok (.getfield 126, 3) := by decide +kernel
theorem dX6_bracket_241 : decode cX6_bracket 241 = .ok (.iconst 1, 1) := by decide +kernel
theorem dX6_bracket_242 : decode cX6_bracket 242 = .ok (.iadd, 1) := by decide +kernel
theorem dX6_bracket_243 : decode cX6_bracket 243 = .ok (.putfield 126, 3) := by decide +kernel
theorem dX6_bracket_246 : decode cX6_bracket 246 = .ok (.aload_n 0, 1) := by decide +kernel
theorem dX6_bracket_247 : decode cX6_bracket 247 = .ok (.iload_n 3, 1) := by decide +kernel
theorem dX6_bracket_248 : decode cX6_bracket 248 = .ok (.iload 4, 2) := by decide +kernel
theorem dX6_bracket_250 : decode cX6_bracket 250 = .ok (.invokevirtual 143, 3) := by decide +kernel
theorem dX6_bracket_253 : decode cX6_bracket 253 = .ok (.iconst 1, 1) := by decide +kernel
theorem dX6_bracket_254 : decode cX6_bracket 254 = .ok (.ireturn, 1) := by decide +kernel
def E_bracket (R : RS)  (R' : RS) (r : Int32) : Prop := if (R.1 16) = 4 then (R' = R ∧ r = 0) else (∃ (R2 : RS) (r3 : Int32), E_peek R 1 R2 r3 ∧ (if r3 = 63 then (∃ (R18 : RS) (r19 : Int32), E_peek R2 2 R18 r19 ∧ (∃ (R20 : RS) (r21 : Int32), E_peek R18 3 R20 r21 ∧ (if (if r19 = 58 then 9 else (if r19 = 61 then 10 else (if r19 = 33 then 11 else (if r19 = 62 then 14 else (if (if r19 = 60 then 1 else 0 : Int32) = 0 then (if (if r19 = 60 then 1 else 0 : Int32) = 0 then (-1) else (if r21 = 33 then 13 else (-1) : Int32) : Int32) else (if r21 = 61 then 12 else (if (if r19 = 60 then 1 else 0 : Int32) = 0 then (-1) else (if r21 = 33 then 13 else (-1) : Int32) : Int32) : Int32) : Int32) : Int32) : Int32) : Int32) : Int32) = (-1) then (R' = R20 ∧ r = 0) else (if (if r19 = 58 then 9 else (if r19 = 61 then 10 else (if r19 = 33 then 11 else (if r19 = 62 then 14 else (if (if r19 = 60 then 1 else 0 : Int32) = 0 then (if (if r19 = 60 then 1 else 0 : Int32) = 0 then (-1) else (if r21 = 33 then 13 else (-1) : Int32) : Int32) else (if r21 = 61 then 12 else (if (if r19 = 60 then 1 else 0 : Int32) = 0 then (-1) else (if r21 = 33 then 13 else (-1) : Int32) : Int32) : Int32) : Int32) : Int32) : Int32) : Int32) : Int32) = 8 then (if (R20.1 6) = 4 then (R' = R20 ∧ r = 0) else (∃ (R55 : RS) (r56 : Int32), E_create R20 (if r19 = 58 then 9 else (if r19 = 61 then 10 else (if r19 = 33 then 11 else (if r19 = 62 then 14 else (if (if r19 = 60 then 1 else 0 : Int32) = 0 then (if (if r19 = 60 then 1 else 0 : Int32) = 0 then (-1) else (if r21 = 33 then 13 else (-1) : Int32) : Int32) else (if r21 = 61 then 12 else (if (if r19 = 60 then 1 else 0 : Int32) = 0 then (-1) else (if r21 = 33 then 13 else (-1) : Int32) : Int32) : Int32) : Int32) : Int32) : Int32) : Int32) : Int32) R55 r56 ∧ (if (if r19 = 58 then 9 else (if r19 = 61 then 10 else (if r19 = 33 then 11 else (if r19 = 62 then 14 else (if (if r19 = 60 then 1 else 0 : Int32) = 0 then (if (if r19 = 60 then 1 else 0 : Int32) = 0 then (-1) else (if r21 = 33 then 13 else (-1) : Int32) : Int32) else (if r21 = 61 then 12 else (if (if r19 = 60 then 1 else 0 : Int32) = 0 then (-1) else (if r21 = 33 then 13 else (-1) : Int32) : Int32) : Int32) : Int32) : Int32) : Int32) : Int32) : Int32) = 8 then (vp_in r56 96 ∧ (vp_in (R55.1 16) 6 ∧ (∃ R68 : RS, E_newChoice (mf (mf (ma (mf R55 6 ((R55.1 6) + 1)) 9 r56.toNatClampNeg ((R55.1 6) + 1)) 17 ((R55.1 17) + (if (if r19 = 60 then 1 else 0 : Int32) = 0 then 3 else 4 : Int32))) 16 ((R55.1 16) + 1)) r56 (if (R55.2.1 22 (R55.1 16).toNatClampNeg) = 0 then (if (if r19 = 58 then 9 else (if r19 = 61 then 10 else (if r19 = 33 then 11 else (if r19 = 62 then 14 else (if (if r19 = 60 then 1 else 0 : Int32) = 0 then (if (if r19 = 60 then 1 else 0 : Int32) = 0 then (-1) else (if r21 = 33 then 13 else (-1) : Int32) : Int32) else (if r21 = 61 then 12 else (if (if r19 = 60 then 1 else 0 : Int32) = 0 then (-1) else (if r21 = 33 then 13 else (-1) : Int32) : Int32) : Int32) : Int32) : Int32) : Int32) : Int32) : Int32) = 12 then 1 else (if (if r19 = 58 then 9 else (if r19 = 61 then 10 else (if r19 = 33 then 11 else (if r19 = 62 then 14 else (if (if r19 = 60 then 1 else 0 : Int32) = 0 then (if (if r19 = 60 then 1 else 0 : Int32) = 0 then (-1) else (if r21 = 33 then 13 else (-1) : Int32) : Int32) else (if r21 = 61 then 12 else (if (if r19 = 60 then 1 else 0 : Int32) = 0 then (-1) else (if r21 = 33 then 13 else (-1) : Int32) : Int32) : Int32) : Int32) : Int32) : Int32) : Int32) : Int32) = 13 then 1 else 0 : Int32) : Int32) else 1 : Int32) R68 0 ∧ (R' = R68 ∧ r = 1)))) else (vp_in (R55.1 16) 6 ∧ (∃ R62 : RS, E_newChoice (mf (mf R55 17 ((R55.1 17) + (if (if r19 = 60 then 1 else 0 : Int32) = 0 then 3 else 4 : Int32))) 16 ((R55.1 16) + 1)) r56 (if (R55.2.1 22 (R55.1 16).toNatClampNeg) = 0 then (if (if r19 = 58 then 9 else (if r19 = 61 then 10 else (if r19 = 33 then 11 else (if r19 = 62 then 14 else (if (if r19 = 60 then 1 else 0 : Int32) = 0 then (if (if r19 = 60 then 1 else 0 : Int32) = 0 then (-1) else (if r21 = 33 then 13 else (-1) : Int32) : Int32) else (if r21 = 61 then 12 else (if (if r19 = 60 then 1 else 0 : Int32) = 0 then (-1) else (if r21 = 33 then 13 else (-1) : Int32) : Int32) : Int32) : Int32) : Int32) : Int32) : Int32) : Int32) = 12 then 1 else (if (if r19 = 58 then 9 else (if r19 = 61 then 10 else (if r19 = 33 then 11 else (if r19 = 62 then 14 else (if (if r19 = 60 then 1 else 0 : Int32) = 0 then (if (if r19 = 60 then 1 else 0 : Int32) = 0 then (-1) else (if r21 = 33 then 13 else (-1) : Int32) : Int32) else (if r21 = 61 then 12 else (if (if r19 = 60 then 1 else 0 : Int32) = 0 then (-1) else (if r21 = 33 then 13 else (-1) : Int32) : Int32) : Int32) : Int32) : Int32) : Int32) : Int32) : Int32) = 13 then 1 else 0 : Int32) : Int32) else 1 : Int32) R62 0 ∧ (R' = R62 ∧ r = 1)))))) else (∃ (R39 : RS) (r40 : Int32), E_create R20 (if r19 = 58 then 9 else (if r19 = 61 then 10 else (if r19 = 33 then 11 else (if r19 = 62 then 14 else (if (if r19 = 60 then 1 else 0 : Int32) = 0 then (if (if r19 = 60 then 1 else 0 : Int32) = 0 then (-1) else (if r21 = 33 then 13 else (-1) : Int32) : Int32) else (if r21 = 61 then 12 else (if (if r19 = 60 then 1 else 0 : Int32) = 0 then (-1) else (if r21 = 33 then 13 else (-1) : Int32) : Int32) : Int32) : Int32) : Int32) : Int32) : Int32) : Int32) R39 r40 ∧ (if (if r19 = 58 then 9 else (if r19 = 61 then 10 else (if r19 = 33 then 11 else (if r19 = 62 then 14 else (if (if r19 = 60 then 1 else 0 : Int32) = 0 then (if (if r19 = 60 then 1 else 0 : Int32) = 0 then (-1) else (if r21 = 33 then 13 else (-1) : Int32) : Int32) else (if r21 = 61 then 12 else (if (if r19 = 60 then 1 else 0 : Int32) = 0 then (-1) else (if r21 = 33 then 13 else (-1) : Int32) : Int32) : Int32) : Int32) : Int32) : Int32) : Int32) : Int32) = 8 then (vp_in r40 96 ∧ (vp_in (R39.1 16) 6 ∧ (∃ R52 : RS, E_newChoice (mf (mf (ma (mf R39 6 ((R39.1 6) + 1)) 9 r40.toNatClampNeg ((R39.1 6) + 1)) 17 ((R39.1 17) + (if (if r19 = 60 then 1 else 0 : Int32) = 0 then 3 else 4 : Int32))) 16 ((R39.1 16) + 1)) r40 (if (R39.2.1 22 (R39.1 16).toNatClampNeg) = 0 then (if (if r19 = 58 then 9 else (if r19 = 61 then 10 else (if r19 = 33 then 11 else (if r19 = 62 then 14 else (if (if r19 = 60 then 1 else 0 : Int32) = 0 then (if (if r19 = 60 then 1 else 0 : Int32) = 0 then (-1) else (if r21 = 33 then 13 else (-1) : Int32) : Int32) else (if r21 = 61 then 12 else (if (if r19 = 60 then 1 else 0 : Int32) = 0 then (-1) else (if r21 = 33 then 13 else (-1) : Int32) : Int32) : Int32) : Int32) : Int32) : Int32) : Int32) : Int32) = 12 then 1 else (if (if r19 = 58 then 9 else (if r19 = 61 then 10 else (if r19 = 33 then 11 else (if r19 = 62 then 14 else (if (if r19 = 60 then 1 else 0 : Int32) = 0 then (if (if r19 = 60 then 1 else 0 : Int32) = 0 then (-1) else (if r21 = 33 then 13 else (-1) : Int32) : Int32) else (if r21 = 61 then 12 else (if (if r19 = 60 then 1 else 0 : Int32) = 0 then (-1) else (if r21 = 33 then 13 else (-1) : Int32) : Int32) : Int32) : Int32) : Int32) : Int32) : Int32) : Int32) = 13 then 1 else 0 : Int32) : Int32) else 1 : Int32) R52 0 ∧ (R' = R52 ∧ r = 1)))) else (vp_in (R39.1 16) 6 ∧ (∃ R46 : RS, E_newChoice (mf (mf R39 17 ((R39.1 17) + (if (if r19 = 60 then 1 else 0 : Int32) = 0 then 3 else 4 : Int32))) 16 ((R39.1 16) + 1)) r40 (if (R39.2.1 22 (R39.1 16).toNatClampNeg) = 0 then (if (if r19 = 58 then 9 else (if r19 = 61 then 10 else (if r19 = 33 then 11 else (if r19 = 62 then 14 else (if (if r19 = 60 then 1 else 0 : Int32) = 0 then (if (if r19 = 60 then 1 else 0 : Int32) = 0 then (-1) else (if r21 = 33 then 13 else (-1) : Int32) : Int32) else (if r21 = 61 then 12 else (if (if r19 = 60 then 1 else 0 : Int32) = 0 then (-1) else (if r21 = 33 then 13 else (-1) : Int32) : Int32) : Int32) : Int32) : Int32) : Int32) : Int32) : Int32) = 12 then 1 else (if (if r19 = 58 then 9 else (if r19 = 61 then 10 else (if r19 = 33 then 11 else (if r19 = 62 then 14 else (if (if r19 = 60 then 1 else 0 : Int32) = 0 then (if (if r19 = 60 then 1 else 0 : Int32) = 0 then (-1) else (if r21 = 33 then 13 else (-1) : Int32) : Int32) else (if r21 = 61 then 12 else (if (if r19 = 60 then 1 else 0 : Int32) = 0 then (-1) else (if r21 = 33 then 13 else (-1) : Int32) : Int32) : Int32) : Int32) : Int32) : Int32) : Int32) : Int32) = 13 then 1 else 0 : Int32) : Int32) else 1 : Int32) R46 0 ∧ (R' = R46 ∧ r = 1))))))))) else (if (R2.1 6) = 4 then (R' = R2 ∧ r = 0) else (∃ (R8 : RS) (r9 : Int32), E_create R2 8 R8 r9 ∧ (vp_in r9 96 ∧ (vp_in (R8.1 16) 6 ∧ (if (R8.2.1 22 (R8.1 16).toNatClampNeg) = 0 then (∃ R16 : RS, E_newChoice (mf (mf (ma (mf R8 6 ((R8.1 6) + 1)) 9 r9.toNatClampNeg ((R8.1 6) + 1)) 17 ((R8.1 17) + 1)) 16 ((R8.1 16) + 1)) r9 0 R16 0 ∧ (R' = R16 ∧ r = 1)) else (∃ R12 : RS, E_newChoice (mf (mf (ma (mf R8 6 ((R8.1 6) + 1)) 9 r9.toNatClampNeg ((R8.1 6) + 1)) 17 ((R8.1 17) + 1)) 16 ((R8.1 16) + 1)) r9 1 R12 0 ∧ (R' = R12 ∧ r = 1)))))))))
set_option maxHeartbeats 4000000 in
set_option maxRecDepth 100000 in
theorem e_bracket (l : Launch) (G : PG) (h : Nat) (q : Nat → Nat) (R : RS)  (R' : RS) (r : Int32) (hE : E_bracket R R' r) : Ci l yX6_bracket (Cond.code yX6_bracket cX6_bracket 6 (some .boolean) :: aW) { frames := 3, cells := 0, slots := 0, locals := 65 } G (mW G h q R) [.ref h] (fun (r9 : Int32) (_ : Unit) => r9 = r) (fun (_ : Unit) => mW G h q R') 0 0 := by
  refine ofB (y := yX6_bracket) (G := G) (cc := cX6_bracket) (maxL := 6) (ret := (some .boolean)) (Qc := fun A => va_Qi (fun (r9 : Int32) (_ : Unit) => r9 = r) (oB G A (fun (_ : Unit) => mW G h q R')) A) (by decide) rfl ?_
  intro p e s m below meth c A F hK hA hP hD
  have hS : va_S A s.heap s.heap [] := va_S.rf
  have hx := F.1.1; have hb := F.1.2.1; have hml := F.1.2.2.1; have hts := F.1.2.2.2.2
  have hown : s.vm.findClass RX6 = some m.cls := F.1.2.2.2.1
  have hl := lv_entry ([.ref h]) (n := 6) (Nat.le_of_ble_eq_true rfl)
  rw [lg_entry_eq]
  generalize (lg_sl ([.ref h]) ++ List.replicate (6 - (lg_sl ([.ref h])).length) Slot.unset).toArray = ls at hl ⊢
  have hl : lv_has ls 6 [(0, .ref h)] := hl
  unfold E_bracket at hE
  refine lv_aload_n hx hb dX6_bracket_0 rfl (lv_at hl 0 rfl) ?_
  refine va_get (D := G.1) (ci := 6) (C := RX6) (T := TX6) (N := 48) hx hb hts inX6 hown hK.1 hP 0 mW_0 rfl 16 (by decide) (hts _ w_862) (fun _ h9 => h9) mF_16 dX6_bracket_1 ?_
  refine lv_iconst (v := 4) hx hb dX6_bracket_4 (by decide) ?_
  refine lv_icmp_ne (tgt := 10) hx hb dX6_bracket_5 (by decide) (fun h1 => ?_) (fun h1 => ?_)
  ·
    rw [if_neg h1] at hE
    refine lv_bipush (v := 8) hx hb dX6_bracket_10 (by decide) ?_
    refine lv_istore_n hx hb dX6_bracket_12 rfl hl (by decide) rfl (fun ls hl => ?_)
    have hl : lv_has ls 6 [(1, .int 8), (0, .ref h)] := hl
    refine lv_iconst (v := 1) hx hb dX6_bracket_13 (by decide) ?_
    refine lv_istore_n hx hb dX6_bracket_14 rfl hl (by decide) rfl (fun ls hl => ?_)
    have hl : lv_has ls 6 [(2, .int 1), (1, .int 8), (0, .ref h)] := hl
    refine lv_aload_n hx hb dX6_bracket_15 rfl (lv_at hl 2 rfl) ?_
    refine lv_iconst (v := 1) hx hb dX6_bracket_16 (by decide) ?_
    obtain ⟨R2, r3, hg, hE⟩ := hE
    refine kA_i (va_runV (As := [.int 1]) (rest := []) F.1 (e_peek l G h q R 1 R2 r3 hg _) (cwV 1 hts (aw_V w_1031 w_1033 ws_X6_peek w_6 w_1034) rfl rfl rfl (by decide +kernel) ⟨by decide, by decide⟩) ⟨cS_blind, va_recv (q := (RX6, TX6, 48)) (ci := 6) (q0 := 0) hK.1 hP rfl mW_0, cS_pre hP hD hK⟩ rfl rfl hl.1 rfl (lv_room (Nat.le_of_ble_eq_true rfl)) dX6_bracket_17 ⟨Nat.le_refl _, Nat.le_refl _⟩) hD hS hA (fun r9 u0 H locs hp hP hD hS => ?_)
    have hp := hp.symm; subst hp
    refine lv_bipush (v := 63) hx hb dX6_bracket_20 (by decide) ?_
    refine lv_icmp_ne (tgt := 142) hx hb dX6_bracket_22 (by decide) (fun h4 => ?_) (fun h4 => ?_)
    ·
      rw [if_neg h4] at hE
      refine lv_iload_n hx hb dX6_bracket_142 rfl (lv_at hl 1 rfl) ?_
      refine lv_iconst (v := (-1)) hx hb dX6_bracket_143 (by decide) ?_
      refine lv_icmp_eq (tgt := 161) hx hb dX6_bracket_144 (by decide) (fun h => absurd h (by decide)) (fun _ => ?_)
      refine lv_iload_n hx hb dX6_bracket_147 rfl (lv_at hl 1 rfl) ?_
      refine lv_bipush (v := 8) hx hb dX6_bracket_148 (by decide) ?_
      refine lv_icmp_ne (tgt := 163) hx hb dX6_bracket_150 (by decide) (fun h => absurd (by decide) h) (fun _ => ?_)
      refine lv_aload_n hx hb dX6_bracket_153 rfl (lv_at hl 2 rfl) ?_
      refine va_get (D := G.1) (ci := 6) (C := RX6) (T := TX6) (N := 48) hx hb hts inX6 hown hK.1 hP 0 mW_0 rfl 6 (by decide) (hts _ w_852) (fun _ h9 => h9) mF_6 dX6_bracket_154 ?_
      refine lv_iconst (v := 4) hx hb dX6_bracket_157 (by decide) ?_
      refine lv_icmp_ne (tgt := 163) hx hb dX6_bracket_158 (by decide) (fun h7 => ?_) (fun h7 => ?_)
      ·
        rw [if_neg h7] at hE
        refine lv_aload_n hx hb dX6_bracket_163 rfl (lv_at hl 2 rfl) ?_
        refine lv_iload_n hx hb dX6_bracket_164 rfl (lv_at hl 1 rfl) ?_
        obtain ⟨R8, r9, hg, hE⟩ := hE
        refine kA_i (va_runV (As := [.int 8]) (rest := []) F.1 (e_create l G h q R2 8 R8 r9 hg _) (cwV 1 hts (aw_V w_1023 w_1025 ws_X6_create w_6 w_1026) rfl rfl rfl (by decide +kernel) ⟨by decide, by decide⟩) ⟨cS_blind, va_recv (q := (RX6, TX6, 48)) (ci := 6) (q0 := 0) hK.1 hP rfl mW_0, cS_pre hP hD hK⟩ rfl rfl hl.1 rfl (lv_room (Nat.le_of_ble_eq_true rfl)) dX6_bracket_165 ⟨Nat.le_refl _, Nat.le_refl _⟩) hD hS hA (fun r9 u0 H locs hp hP hD hS => ?_)
        have hp := hp.symm; subst hp
        refine lv_istore_n hx hb dX6_bracket_168 rfl hl (by decide) rfl (fun ls hl => ?_)
        have hl : lv_has ls 6 [(3, .int r9), (2, .int 1), (1, .int 8), (0, .ref h)] := hl
        refine lv_iload_n hx hb dX6_bracket_169 rfl (lv_at hl 2 rfl) ?_
        refine lv_bipush (v := 8) hx hb dX6_bracket_170 (by decide) ?_
        refine lv_icmp_ne (tgt := 195) hx hb dX6_bracket_172 (by decide) (fun h => absurd (by decide) h) (fun _ => ?_)
        refine lv_aload_n hx hb dX6_bracket_175 rfl (lv_at hl 3 rfl) ?_
        refine lv_dup hx hb dX6_bracket_176 rfl ?_
        refine va_get (D := G.1) (ci := 6) (C := RX6) (T := TX6) (N := 48) hx hb hts inX6 hown hK.1 hP 0 mW_0 rfl 6 (by decide) (hts _ w_852) (fun _ h9 => h9) mF_6 dX6_bracket_177 ?_
        refine lv_iconst (v := 1) hx hb dX6_bracket_180 (by decide) ?_
        refine lv_iadd hx hb dX6_bracket_181 ?_
        refine va_put (D := G.1) (ci := 6) (v := .int ((R8.1 6) + 1)) (ty := .int) (C := RX6) (T := TX6) (N := 48) hx hb hts inX6 tyX6 tyX6_ok nmX6 hown hK.1 hP hD hS 0 mW_0 rfl 6 (by decide) (hts _ w_852) (fun _ h9 => h9) rfl (by decide +kernel) rfl rfl mF_l6 dX6_bracket_182 (fun H locs hP hD hS => ?_)
        rw [mW_f6] at hP hD
        refine lv_aload_n hx hb dX6_bracket_185 rfl (lv_at hl 3 rfl) ?_
        refine va_get (D := G.1) (ci := 6) (C := RX6) (T := TX6) (N := 48) hx hb hts inX6 hown hK.1 hP 0 mW_0 rfl 9 (by decide) (hts _ w_855) (fun _ h9 => h9) mF_9 dX6_bracket_186 ?_
        refine lv_iload_n hx hb dX6_bracket_189 rfl (lv_at hl 0 rfl) ?_
        refine lv_aload_n hx hb dX6_bracket_190 rfl (lv_at hl 3 rfl) ?_
        refine va_get (D := G.1) (ci := 6) (C := RX6) (T := TX6) (N := 48) hx hb hts inX6 hown hK.1 hP 0 mW_0 rfl 6 (by decide) (hts _ w_852) (fun _ h9 => h9) mF_6 dX6_bracket_191 ?_
        refine tp_i ((R8.1 6) + 1) rfl ?_
        obtain ⟨hin, hE⟩ := hE
        refine va_iast (D := G.1) hx hb hK.1 hP hD hS 4 0 mW_g9 rfl hin dX6_bracket_194 (fun H locs hP hD hS => ?_)
        rw [mW_a9] at hP hD
        refine lv_aload_n hx hb dX6_bracket_195 rfl (lv_at hl 3 rfl) ?_
        refine va_get (D := G.1) (ci := 6) (C := RX6) (T := TX6) (N := 48) hx hb hts inX6 hown hK.1 hP 0 mW_0 rfl 22 (by decide) (hts _ w_868) (fun _ h9 => h9) mF_22 dX6_bracket_196 ?_
        refine lv_aload_n hx hb dX6_bracket_199 rfl (lv_at hl 3 rfl) ?_
        refine va_get (D := G.1) (ci := 6) (C := RX6) (T := TX6) (N := 48) hx hb hts inX6 hown hK.1 hP 0 mW_0 rfl 16 (by decide) (hts _ w_862) (fun _ h9 => h9) mF_16 dX6_bracket_200 ?_
        refine tp_i (R8.1 16) rfl ?_
        obtain ⟨hin, hE⟩ := hE
        refine va_zald (D := G.1) hx hb hK.1 hP 15 3 mW_g22 rfl hin dX6_bracket_203 ?_
        refine tp_i (R8.2.1 22 (R8.1 16).toNatClampNeg) rfl ?_
        refine lv_if_ne (tgt := 219) hx hb dX6_bracket_204 (by decide) (fun h11 => ?_) (fun h11 => ?_)
        ·
          rw [if_neg h11] at hE
          refine lv_iconst (v := 1) hx hb dX6_bracket_219 (by decide) ?_
          refine lv_goto (tgt := 224) hx hb dX6_bracket_220 (by decide) ?_
          refine lv_istore hx hb dX6_bracket_224 hl (by decide) rfl (fun ls hl => ?_)
          have hl : lv_has ls 6 [(4, .int 1), (3, .int r9), (2, .int 1), (1, .int 8), (0, .ref h)] := hl
          refine lv_aload_n hx hb dX6_bracket_226 rfl (lv_at hl 4 rfl) ?_
          refine lv_dup hx hb dX6_bracket_227 rfl ?_
          refine va_get (D := G.1) (ci := 6) (C := RX6) (T := TX6) (N := 48) hx hb hts inX6 hown hK.1 hP 0 mW_0 rfl 17 (by decide) (hts _ w_863) (fun _ h9 => h9) mF_17 dX6_bracket_228 ?_
          refine tp_i (R8.1 17) rfl ?_
          refine lv_iload_n hx hb dX6_bracket_231 rfl (lv_at hl 2 rfl) ?_
          refine lv_iadd hx hb dX6_bracket_232 ?_
          refine va_put (D := G.1) (ci := 6) (v := .int ((R8.1 17) + 1)) (ty := .int) (C := RX6) (T := TX6) (N := 48) hx hb hts inX6 tyX6 tyX6_ok nmX6 hown hK.1 hP hD hS 0 mW_0 rfl 17 (by decide) (hts _ w_863) (fun _ h9 => h9) rfl (by decide +kernel) rfl rfl mF_l17 dX6_bracket_233 (fun H locs hP hD hS => ?_)
          rw [mW_f17] at hP hD
          refine lv_aload_n hx hb dX6_bracket_236 rfl (lv_at hl 4 rfl) ?_
          refine lv_dup hx hb dX6_bracket_237 rfl ?_
          refine va_get (D := G.1) (ci := 6) (C := RX6) (T := TX6) (N := 48) hx hb hts inX6 hown hK.1 hP 0 mW_0 rfl 16 (by decide) (hts _ w_862) (fun _ h9 => h9) mF_16 dX6_bracket_238 ?_
          refine tp_i (R8.1 16) rfl ?_
          refine lv_iconst (v := 1) hx hb dX6_bracket_241 (by decide) ?_
          refine lv_iadd hx hb dX6_bracket_242 ?_
          refine va_put (D := G.1) (ci := 6) (v := .int ((R8.1 16) + 1)) (ty := .int) (C := RX6) (T := TX6) (N := 48) hx hb hts inX6 tyX6 tyX6_ok nmX6 hown hK.1 hP hD hS 0 mW_0 rfl 16 (by decide) (hts _ w_862) (fun _ h9 => h9) rfl (by decide +kernel) rfl rfl mF_l16 dX6_bracket_243 (fun H locs hP hD hS => ?_)
          rw [mW_f16] at hP hD
          refine lv_aload_n hx hb dX6_bracket_246 rfl (lv_at hl 4 rfl) ?_
          refine lv_iload_n hx hb dX6_bracket_247 rfl (lv_at hl 1 rfl) ?_
          refine lv_iload hx hb dX6_bracket_248 (lv_at hl 0 rfl) ?_
          obtain ⟨R12, hg, hE⟩ := hE
          refine kA_v (va_runV (As := [.int r9, .int 1]) (rest := []) F.1 (e_newChoice l G h q (mf (mf (ma (mf R8 6 ((R8.1 6) + 1)) 9 r9.toNatClampNeg ((R8.1 6) + 1)) 17 ((R8.1 17) + 1)) 16 ((R8.1 16) + 1)) r9 1 R12 0 hg _) (cwV 2 hts (aw_V w_1019 w_1021 ws_X6_newChoice w_6 w_1022) rfl rfl rfl (by decide +kernel) ⟨by decide, by decide⟩) ⟨cS_blind, va_recv (q := (RX6, TX6, 48)) (ci := 6) (q0 := 0) hK.1 hP rfl mW_0, cS_pre hP hD hK⟩ rfl rfl hl.1 rfl (lv_room (Nat.le_of_ble_eq_true rfl)) dX6_bracket_250 ⟨Nat.le_refl _, Nat.le_refl _⟩) hD hS hA (fun u0 H locs hp hP hD hS => ?_)
          refine lv_iconst (v := 1) hx hb dX6_bracket_253 (by decide) ?_
          obtain ⟨rfl, rfl⟩ := hE
          exact en_i F hS _ () (by rfl) rfl hP hD (Nat.le_refl _) (Nat.le_refl _) dX6_bracket_254
        ·
          rw [if_pos h11] at hE
          refine lv_iload_n hx hb dX6_bracket_207 rfl (lv_at hl 2 rfl) ?_
          refine lv_bipush (v := 12) hx hb dX6_bracket_208 (by decide) ?_
          refine lv_icmp_eq (tgt := 219) hx hb dX6_bracket_210 (by decide) (fun h => absurd h (by decide)) (fun _ => ?_)
          refine lv_iload_n hx hb dX6_bracket_213 rfl (lv_at hl 2 rfl) ?_
          refine lv_bipush (v := 13) hx hb dX6_bracket_214 (by decide) ?_
          refine lv_icmp_ne (tgt := 223) hx hb dX6_bracket_216 (by decide) (fun _ => ?_) (fun h => absurd h (by decide))
          refine lv_iconst (v := 0) hx hb dX6_bracket_223 (by decide) ?_
          refine lv_istore hx hb dX6_bracket_224 hl (by decide) rfl (fun ls hl => ?_)
          have hl : lv_has ls 6 [(4, .int 0), (3, .int r9), (2, .int 1), (1, .int 8), (0, .ref h)] := hl
          refine lv_aload_n hx hb dX6_bracket_226 rfl (lv_at hl 4 rfl) ?_
          refine lv_dup hx hb dX6_bracket_227 rfl ?_
          refine va_get (D := G.1) (ci := 6) (C := RX6) (T := TX6) (N := 48) hx hb hts inX6 hown hK.1 hP 0 mW_0 rfl 17 (by decide) (hts _ w_863) (fun _ h9 => h9) mF_17 dX6_bracket_228 ?_
          refine tp_i (R8.1 17) rfl ?_
          refine lv_iload_n hx hb dX6_bracket_231 rfl (lv_at hl 2 rfl) ?_
          refine lv_iadd hx hb dX6_bracket_232 ?_
          refine va_put (D := G.1) (ci := 6) (v := .int ((R8.1 17) + 1)) (ty := .int) (C := RX6) (T := TX6) (N := 48) hx hb hts inX6 tyX6 tyX6_ok nmX6 hown hK.1 hP hD hS 0 mW_0 rfl 17 (by decide) (hts _ w_863) (fun _ h9 => h9) rfl (by decide +kernel) rfl rfl mF_l17 dX6_bracket_233 (fun H locs hP hD hS => ?_)
          rw [mW_f17] at hP hD
          refine lv_aload_n hx hb dX6_bracket_236 rfl (lv_at hl 4 rfl) ?_
          refine lv_dup hx hb dX6_bracket_237 rfl ?_
          refine va_get (D := G.1) (ci := 6) (C := RX6) (T := TX6) (N := 48) hx hb hts inX6 hown hK.1 hP 0 mW_0 rfl 16 (by decide) (hts _ w_862) (fun _ h9 => h9) mF_16 dX6_bracket_238 ?_
          refine tp_i (R8.1 16) rfl ?_
          refine lv_iconst (v := 1) hx hb dX6_bracket_241 (by decide) ?_
          refine lv_iadd hx hb dX6_bracket_242 ?_
          refine va_put (D := G.1) (ci := 6) (v := .int ((R8.1 16) + 1)) (ty := .int) (C := RX6) (T := TX6) (N := 48) hx hb hts inX6 tyX6 tyX6_ok nmX6 hown hK.1 hP hD hS 0 mW_0 rfl 16 (by decide) (hts _ w_862) (fun _ h9 => h9) rfl (by decide +kernel) rfl rfl mF_l16 dX6_bracket_243 (fun H locs hP hD hS => ?_)
          rw [mW_f16] at hP hD
          refine lv_aload_n hx hb dX6_bracket_246 rfl (lv_at hl 4 rfl) ?_
          refine lv_iload_n hx hb dX6_bracket_247 rfl (lv_at hl 1 rfl) ?_
          refine lv_iload hx hb dX6_bracket_248 (lv_at hl 0 rfl) ?_
          obtain ⟨R16, hg, hE⟩ := hE
          refine kA_v (va_runV (As := [.int r9, .int 0]) (rest := []) F.1 (e_newChoice l G h q (mf (mf (ma (mf R8 6 ((R8.1 6) + 1)) 9 r9.toNatClampNeg ((R8.1 6) + 1)) 17 ((R8.1 17) + 1)) 16 ((R8.1 16) + 1)) r9 0 R16 0 hg _) (cwV 2 hts (aw_V w_1019 w_1021 ws_X6_newChoice w_6 w_1022) rfl rfl rfl (by decide +kernel) ⟨by decide, by decide⟩) ⟨cS_blind, va_recv (q := (RX6, TX6, 48)) (ci := 6) (q0 := 0) hK.1 hP rfl mW_0, cS_pre hP hD hK⟩ rfl rfl hl.1 rfl (lv_room (Nat.le_of_ble_eq_true rfl)) dX6_bracket_250 ⟨Nat.le_refl _, Nat.le_refl _⟩) hD hS hA (fun u0 H locs hp hP hD hS => ?_)
          refine lv_iconst (v := 1) hx hb dX6_bracket_253 (by decide) ?_
          obtain ⟨rfl, rfl⟩ := hE
          exact en_i F hS _ () (by rfl) rfl hP hD (Nat.le_refl _) (Nat.le_refl _) dX6_bracket_254
      ·
        rw [if_pos h7] at hE
        refine lv_iconst (v := 0) hx hb dX6_bracket_161 (by decide) ?_
        obtain ⟨rfl, rfl⟩ := hE
        exact en_i F hS _ () (by rfl) rfl hP hD (Nat.le_refl _) (Nat.le_refl _) dX6_bracket_162
    ·
      rw [if_pos h4] at hE
      refine lv_aload_n hx hb dX6_bracket_25 rfl (lv_at hl 2 rfl) ?_
      refine lv_iconst (v := 2) hx hb dX6_bracket_26 (by decide) ?_
      obtain ⟨R18, r19, hg, hE⟩ := hE
      refine kA_i (va_runV (As := [.int 2]) (rest := []) F.1 (e_peek l G h q R2 2 R18 r19 hg _) (cwV 1 hts (aw_V w_1031 w_1033 ws_X6_peek w_6 w_1034) rfl rfl rfl (by decide +kernel) ⟨by decide, by decide⟩) ⟨cS_blind, va_recv (q := (RX6, TX6, 48)) (ci := 6) (q0 := 0) hK.1 hP rfl mW_0, cS_pre hP hD hK⟩ rfl rfl hl.1 rfl (lv_room (Nat.le_of_ble_eq_true rfl)) dX6_bracket_27 ⟨Nat.le_refl _, Nat.le_refl _⟩) hD hS hA (fun r9 u0 H locs hp hP hD hS => ?_)
      have hp := hp.symm; subst hp
      refine lv_istore_n hx hb dX6_bracket_30 rfl hl (by decide) rfl (fun ls hl => ?_)
      have hl : lv_has ls 6 [(3, .int r19), (2, .int 1), (1, .int 8), (0, .ref h)] := hl
      refine lv_aload_n hx hb dX6_bracket_31 rfl (lv_at hl 3 rfl) ?_
      refine lv_iconst (v := 3) hx hb dX6_bracket_32 (by decide) ?_
      obtain ⟨R20, r21, hg, hE⟩ := hE
      refine kA_i (va_runV (As := [.int 3]) (rest := []) F.1 (e_peek l G h q R18 3 R20 r21 hg _) (cwV 1 hts (aw_V w_1031 w_1033 ws_X6_peek w_6 w_1034) rfl rfl rfl (by decide +kernel) ⟨by decide, by decide⟩) ⟨cS_blind, va_recv (q := (RX6, TX6, 48)) (ci := 6) (q0 := 0) hK.1 hP rfl mW_0, cS_pre hP hD hK⟩ rfl rfl hl.1 rfl (lv_room (Nat.le_of_ble_eq_true rfl)) dX6_bracket_33 ⟨Nat.le_refl _, Nat.le_refl _⟩) hD hS hA (fun r9 u0 H locs hp hP hD hS => ?_)
      have hp := hp.symm; subst hp
      refine lv_istore hx hb dX6_bracket_36 hl (by decide) rfl (fun ls hl => ?_)
      have hl : lv_has ls 6 [(4, .int r21), (3, .int r19), (2, .int 1), (1, .int 8), (0, .ref h)] := hl
      refine lv_iload_n hx hb dX6_bracket_38 rfl (lv_at hl 1 rfl) ?_
      refine lv_bipush (v := 60) hx hb dX6_bracket_39 (by decide) ?_
      refine jn_v (v := (if r19 = 60 then 1 else 0 : Int32)) (pcM := 49) (rest := []) (fun kM => ?_) ?_
      ·
        refine lv_icmp_ne (tgt := 48) hx hb dX6_bracket_41 (by decide) (fun h23 => ?_) (fun h23 => ?_)
        ·
          refine lv_iconst (v := 0) hx hb dX6_bracket_48 (by decide) ?_
          exact kM _ (by try rw [if_neg h23])
        ·
          refine lv_iconst (v := 1) hx hb dX6_bracket_44 (by decide) ?_
          refine lv_goto (tgt := 49) hx hb dX6_bracket_45 (by decide) ?_
          exact kM _ (by try rw [if_pos h23])
      refine lv_istore hx hb dX6_bracket_49 hl (by decide) rfl (fun ls hl => ?_)
      have hl : lv_has ls 6 [(5, .int (if r19 = 60 then 1 else 0 : Int32)), (4, .int r21), (3, .int r19), (2, .int 1), (1, .int 8), (0, .ref h)] := hl
      refine lv_iload_n hx hb dX6_bracket_51 rfl (lv_at hl 2 rfl) ?_
      refine lv_bipush (v := 58) hx hb dX6_bracket_52 (by decide) ?_
      refine jn_v (v := (if r19 = 58 then 9 else (if r19 = 61 then 10 else (if r19 = 33 then 11 else (if r19 = 62 then 14 else (if (if r19 = 60 then 1 else 0 : Int32) = 0 then (if (if r19 = 60 then 1 else 0 : Int32) = 0 then (-1) else (if r21 = 33 then 13 else (-1) : Int32) : Int32) else (if r21 = 61 then 12 else (if (if r19 = 60 then 1 else 0 : Int32) = 0 then (-1) else (if r21 = 33 then 13 else (-1) : Int32) : Int32) : Int32) : Int32) : Int32) : Int32) : Int32) : Int32)) (pcM := 130) (rest := []) (fun kM => ?_) ?_
      ·
        refine lv_icmp_ne (tgt := 62) hx hb dX6_bracket_54 (by decide) (fun h25 => ?_) (fun h25 => ?_)
        ·
          refine lv_iload_n hx hb dX6_bracket_62 rfl (lv_at hl 2 rfl) ?_
          refine lv_bipush (v := 61) hx hb dX6_bracket_63 (by decide) ?_
          refine lv_icmp_ne (tgt := 73) hx hb dX6_bracket_65 (by decide) (fun h26 => ?_) (fun h26 => ?_)
          ·
            refine lv_iload_n hx hb dX6_bracket_73 rfl (lv_at hl 2 rfl) ?_
            refine lv_bipush (v := 33) hx hb dX6_bracket_74 (by decide) ?_
            refine lv_icmp_ne (tgt := 84) hx hb dX6_bracket_76 (by decide) (fun h27 => ?_) (fun h27 => ?_)
            ·
              refine lv_iload_n hx hb dX6_bracket_84 rfl (lv_at hl 2 rfl) ?_
              refine lv_bipush (v := 62) hx hb dX6_bracket_85 (by decide) ?_
              refine lv_icmp_ne (tgt := 95) hx hb dX6_bracket_87 (by decide) (fun h28 => ?_) (fun h28 => ?_)
              ·
                refine lv_iload hx hb dX6_bracket_95 (lv_at hl 0 rfl) ?_
                refine lv_if_eq (tgt := 112) hx hb dX6_bracket_97 (by decide) (fun h29 => ?_) (fun h29 => ?_)
                ·
                  refine lv_iload hx hb dX6_bracket_112 (lv_at hl 0 rfl) ?_
                  refine lv_if_eq (tgt := 129) hx hb dX6_bracket_114 (by decide) (fun h30 => ?_) (fun h30 => ?_)
                  ·
                    refine lv_iconst (v := (-1)) hx hb dX6_bracket_129 (by decide) ?_
                    exact kM _ (by try rw [if_neg h25]; try rw [if_neg h26]; try rw [if_neg h27]; try rw [if_neg h28]; try rw [if_pos h29]; try rw [if_pos h30])
                  ·
                    refine lv_iload hx hb dX6_bracket_117 (lv_at hl 1 rfl) ?_
                    refine lv_bipush (v := 33) hx hb dX6_bracket_119 (by decide) ?_
                    refine lv_icmp_ne (tgt := 129) hx hb dX6_bracket_121 (by decide) (fun h31 => ?_) (fun h31 => ?_)
                    ·
                      refine lv_iconst (v := (-1)) hx hb dX6_bracket_129 (by decide) ?_
                      exact kM _ (by try rw [if_neg h25]; try rw [if_neg h26]; try rw [if_neg h27]; try rw [if_neg h28]; try rw [if_pos h29]; try rw [if_neg h30]; try rw [if_neg h31])
                    ·
                      refine lv_bipush (v := 13) hx hb dX6_bracket_124 (by decide) ?_
                      refine lv_goto (tgt := 130) hx hb dX6_bracket_126 (by decide) ?_
                      exact kM _ (by try rw [if_neg h25]; try rw [if_neg h26]; try rw [if_neg h27]; try rw [if_neg h28]; try rw [if_pos h29]; try rw [if_neg h30]; try rw [if_pos h31])
                ·
                  refine lv_iload hx hb dX6_bracket_100 (lv_at hl 1 rfl) ?_
                  refine lv_bipush (v := 61) hx hb dX6_bracket_102 (by decide) ?_
                  refine lv_icmp_ne (tgt := 112) hx hb dX6_bracket_104 (by decide) (fun h32 => ?_) (fun h32 => ?_)
                  ·
                    refine lv_iload hx hb dX6_bracket_112 (lv_at hl 0 rfl) ?_
                    refine lv_if_eq (tgt := 129) hx hb dX6_bracket_114 (by decide) (fun h33 => ?_) (fun h33 => ?_)
                    ·
                      refine lv_iconst (v := (-1)) hx hb dX6_bracket_129 (by decide) ?_
                      exact kM _ (by try rw [if_neg h25]; try rw [if_neg h26]; try rw [if_neg h27]; try rw [if_neg h28]; try rw [if_neg h29]; try rw [if_neg h32]; try rw [if_pos h33])
                    ·
                      refine lv_iload hx hb dX6_bracket_117 (lv_at hl 1 rfl) ?_
                      refine lv_bipush (v := 33) hx hb dX6_bracket_119 (by decide) ?_
                      refine lv_icmp_ne (tgt := 129) hx hb dX6_bracket_121 (by decide) (fun h34 => ?_) (fun h34 => ?_)
                      ·
                        refine lv_iconst (v := (-1)) hx hb dX6_bracket_129 (by decide) ?_
                        exact kM _ (by try rw [if_neg h25]; try rw [if_neg h26]; try rw [if_neg h27]; try rw [if_neg h28]; try rw [if_neg h29]; try rw [if_neg h32]; try rw [if_neg h33]; try rw [if_neg h34])
                      ·
                        refine lv_bipush (v := 13) hx hb dX6_bracket_124 (by decide) ?_
                        refine lv_goto (tgt := 130) hx hb dX6_bracket_126 (by decide) ?_
                        exact kM _ (by try rw [if_neg h25]; try rw [if_neg h26]; try rw [if_neg h27]; try rw [if_neg h28]; try rw [if_neg h29]; try rw [if_neg h32]; try rw [if_neg h33]; try rw [if_pos h34])
                  ·
                    refine lv_bipush (v := 12) hx hb dX6_bracket_107 (by decide) ?_
                    refine lv_goto (tgt := 130) hx hb dX6_bracket_109 (by decide) ?_
                    exact kM _ (by try rw [if_neg h25]; try rw [if_neg h26]; try rw [if_neg h27]; try rw [if_neg h28]; try rw [if_neg h29]; try rw [if_pos h32])
              ·
                refine lv_bipush (v := 14) hx hb dX6_bracket_90 (by decide) ?_
                refine lv_goto (tgt := 130) hx hb dX6_bracket_92 (by decide) ?_
                exact kM _ (by try rw [if_neg h25]; try rw [if_neg h26]; try rw [if_neg h27]; try rw [if_pos h28])
            ·
              refine lv_bipush (v := 11) hx hb dX6_bracket_79 (by decide) ?_
              refine lv_goto (tgt := 130) hx hb dX6_bracket_81 (by decide) ?_
              exact kM _ (by try rw [if_neg h25]; try rw [if_neg h26]; try rw [if_pos h27])
          ·
            refine lv_bipush (v := 10) hx hb dX6_bracket_68 (by decide) ?_
            refine lv_goto (tgt := 130) hx hb dX6_bracket_70 (by decide) ?_
            exact kM _ (by try rw [if_neg h25]; try rw [if_pos h26])
        ·
          refine lv_bipush (v := 9) hx hb dX6_bracket_57 (by decide) ?_
          refine lv_goto (tgt := 130) hx hb dX6_bracket_59 (by decide) ?_
          exact kM _ (by try rw [if_pos h25])
      refine lv_istore_n hx hb dX6_bracket_130 rfl hl (by decide) rfl (fun ls hl => ?_)
      have hl : lv_has ls 6 [(1, .int (if r19 = 58 then 9 else (if r19 = 61 then 10 else (if r19 = 33 then 11 else (if r19 = 62 then 14 else (if (if r19 = 60 then 1 else 0 : Int32) = 0 then (if (if r19 = 60 then 1 else 0 : Int32) = 0 then (-1) else (if r21 = 33 then 13 else (-1) : Int32) : Int32) else (if r21 = 61 then 12 else (if (if r19 = 60 then 1 else 0 : Int32) = 0 then (-1) else (if r21 = 33 then 13 else (-1) : Int32) : Int32) : Int32) : Int32) : Int32) : Int32) : Int32) : Int32)), (5, .int (if r19 = 60 then 1 else 0 : Int32)), (4, .int r21), (3, .int r19), (2, .int 1), (0, .ref h)] := hl
      refine lv_iload hx hb dX6_bracket_131 (lv_at hl 1 rfl) ?_
      refine jn_v (v := (if (if r19 = 60 then 1 else 0 : Int32) = 0 then 3 else 4 : Int32)) (pcM := 141) (rest := []) (fun kM => ?_) ?_
      ·
        refine lv_if_eq (tgt := 140) hx hb dX6_bracket_133 (by decide) (fun h36 => ?_) (fun h36 => ?_)
        ·
          refine lv_iconst (v := 3) hx hb dX6_bracket_140 (by decide) ?_
          exact kM _ (by try rw [if_pos h36])
        ·
          refine lv_iconst (v := 4) hx hb dX6_bracket_136 (by decide) ?_
          refine lv_goto (tgt := 141) hx hb dX6_bracket_137 (by decide) ?_
          exact kM _ (by try rw [if_neg h36])
      refine lv_istore_n hx hb dX6_bracket_141 rfl hl (by decide) rfl (fun ls hl => ?_)
      have hl : lv_has ls 6 [(2, .int (if (if r19 = 60 then 1 else 0 : Int32) = 0 then 3 else 4 : Int32)), (1, .int (if r19 = 58 then 9 else (if r19 = 61 then 10 else (if r19 = 33 then 11 else (if r19 = 62 then 14 else (if (if r19 = 60 then 1 else 0 : Int32) = 0 then (if (if r19 = 60 then 1 else 0 : Int32) = 0 then (-1) else (if r21 = 33 then 13 else (-1) : Int32) : Int32) else (if r21 = 61 then 12 else (if (if r19 = 60 then 1 else 0 : Int32) = 0 then (-1) else (if r21 = 33 then 13 else (-1) : Int32) : Int32) : Int32) : Int32) : Int32) : Int32) : Int32) : Int32)), (5, .int (if r19 = 60 then 1 else 0 : Int32)), (4, .int r21), (3, .int r19), (0, .ref h)] := hl
      refine lv_iload_n hx hb dX6_bracket_142 rfl (lv_at hl 1 rfl) ?_
      refine lv_iconst (v := (-1)) hx hb dX6_bracket_143 (by decide) ?_
      refine lv_icmp_eq (tgt := 161) hx hb dX6_bracket_144 (by decide) (fun h37 => ?_) (fun h37 => ?_)
      ·
        rw [if_pos h37] at hE
        refine lv_iconst (v := 0) hx hb dX6_bracket_161 (by decide) ?_
        obtain ⟨rfl, rfl⟩ := hE
        exact en_i F hS _ () (by rfl) rfl hP hD (Nat.le_refl _) (Nat.le_refl _) dX6_bracket_162
      ·
        rw [if_neg h37] at hE
        refine lv_iload_n hx hb dX6_bracket_147 rfl (lv_at hl 1 rfl) ?_
        refine lv_bipush (v := 8) hx hb dX6_bracket_148 (by decide) ?_
        refine lv_icmp_ne (tgt := 163) hx hb dX6_bracket_150 (by decide) (fun h38 => ?_) (fun h38 => ?_)
        ·
          rw [if_neg h38] at hE
          refine lv_aload_n hx hb dX6_bracket_163 rfl (lv_at hl 5 rfl) ?_
          refine lv_iload_n hx hb dX6_bracket_164 rfl (lv_at hl 1 rfl) ?_
          obtain ⟨R39, r40, hg, hE⟩ := hE
          refine kA_i (va_runV (As := [.int (if r19 = 58 then 9 else (if r19 = 61 then 10 else (if r19 = 33 then 11 else (if r19 = 62 then 14 else (if (if r19 = 60 then 1 else 0 : Int32) = 0 then (if (if r19 = 60 then 1 else 0 : Int32) = 0 then (-1) else (if r21 = 33 then 13 else (-1) : Int32) : Int32) else (if r21 = 61 then 12 else (if (if r19 = 60 then 1 else 0 : Int32) = 0 then (-1) else (if r21 = 33 then 13 else (-1) : Int32) : Int32) : Int32) : Int32) : Int32) : Int32) : Int32) : Int32)]) (rest := []) F.1 (e_create l G h q R20 (if r19 = 58 then 9 else (if r19 = 61 then 10 else (if r19 = 33 then 11 else (if r19 = 62 then 14 else (if (if r19 = 60 then 1 else 0 : Int32) = 0 then (if (if r19 = 60 then 1 else 0 : Int32) = 0 then (-1) else (if r21 = 33 then 13 else (-1) : Int32) : Int32) else (if r21 = 61 then 12 else (if (if r19 = 60 then 1 else 0 : Int32) = 0 then (-1) else (if r21 = 33 then 13 else (-1) : Int32) : Int32) : Int32) : Int32) : Int32) : Int32) : Int32) : Int32) R39 r40 hg _) (cwV 1 hts (aw_V w_1023 w_1025 ws_X6_create w_6 w_1026) rfl rfl rfl (by decide +kernel) ⟨by decide, by decide⟩) ⟨cS_blind, va_recv (q := (RX6, TX6, 48)) (ci := 6) (q0 := 0) hK.1 hP rfl mW_0, cS_pre hP hD hK⟩ rfl rfl hl.1 rfl (lv_room (Nat.le_of_ble_eq_true rfl)) dX6_bracket_165 ⟨Nat.le_refl _, Nat.le_refl _⟩) hD hS hA (fun r9 u0 H locs hp hP hD hS => ?_)
          have hp := hp.symm; subst hp
          refine lv_istore_n hx hb dX6_bracket_168 rfl hl (by decide) rfl (fun ls hl => ?_)
          have hl : lv_has ls 6 [(3, .int r40), (2, .int (if (if r19 = 60 then 1 else 0 : Int32) = 0 then 3 else 4 : Int32)), (1, .int (if r19 = 58 then 9 else (if r19 = 61 then 10 else (if r19 = 33 then 11 else (if r19 = 62 then 14 else (if (if r19 = 60 then 1 else 0 : Int32) = 0 then (if (if r19 = 60 then 1 else 0 : Int32) = 0 then (-1) else (if r21 = 33 then 13 else (-1) : Int32) : Int32) else (if r21 = 61 then 12 else (if (if r19 = 60 then 1 else 0 : Int32) = 0 then (-1) else (if r21 = 33 then 13 else (-1) : Int32) : Int32) : Int32) : Int32) : Int32) : Int32) : Int32) : Int32)), (5, .int (if r19 = 60 then 1 else 0 : Int32)), (4, .int r21), (0, .ref h)] := hl
          refine lv_iload_n hx hb dX6_bracket_169 rfl (lv_at hl 2 rfl) ?_
          refine lv_bipush (v := 8) hx hb dX6_bracket_170 (by decide) ?_
          refine lv_icmp_ne (tgt := 195) hx hb dX6_bracket_172 (by decide) (fun h41 => ?_) (fun h41 => ?_)
          ·
            rw [if_neg h41] at hE
            refine lv_aload_n hx hb dX6_bracket_195 rfl (lv_at hl 5 rfl) ?_
            refine va_get (D := G.1) (ci := 6) (C := RX6) (T := TX6) (N := 48) hx hb hts inX6 hown hK.1 hP 0 mW_0 rfl 22 (by decide) (hts _ w_868) (fun _ h9 => h9) mF_22 dX6_bracket_196 ?_
            refine lv_aload_n hx hb dX6_bracket_199 rfl (lv_at hl 5 rfl) ?_
            refine va_get (D := G.1) (ci := 6) (C := RX6) (T := TX6) (N := 48) hx hb hts inX6 hown hK.1 hP 0 mW_0 rfl 16 (by decide) (hts _ w_862) (fun _ h9 => h9) mF_16 dX6_bracket_200 ?_
            obtain ⟨hin, hE⟩ := hE
            refine va_zald (D := G.1) hx hb hK.1 hP 15 3 mW_g22 rfl hin dX6_bracket_203 ?_
            refine jn_v (v := (if (R39.2.1 22 (R39.1 16).toNatClampNeg) = 0 then (if (if r19 = 58 then 9 else (if r19 = 61 then 10 else (if r19 = 33 then 11 else (if r19 = 62 then 14 else (if (if r19 = 60 then 1 else 0 : Int32) = 0 then (if (if r19 = 60 then 1 else 0 : Int32) = 0 then (-1) else (if r21 = 33 then 13 else (-1) : Int32) : Int32) else (if r21 = 61 then 12 else (if (if r19 = 60 then 1 else 0 : Int32) = 0 then (-1) else (if r21 = 33 then 13 else (-1) : Int32) : Int32) : Int32) : Int32) : Int32) : Int32) : Int32) : Int32) = 12 then 1 else (if (if r19 = 58 then 9 else (if r19 = 61 then 10 else (if r19 = 33 then 11 else (if r19 = 62 then 14 else (if (if r19 = 60 then 1 else 0 : Int32) = 0 then (if (if r19 = 60 then 1 else 0 : Int32) = 0 then (-1) else (if r21 = 33 then 13 else (-1) : Int32) : Int32) else (if r21 = 61 then 12 else (if (if r19 = 60 then 1 else 0 : Int32) = 0 then (-1) else (if r21 = 33 then 13 else (-1) : Int32) : Int32) : Int32) : Int32) : Int32) : Int32) : Int32) : Int32) = 13 then 1 else 0 : Int32) : Int32) else 1 : Int32)) (pcM := 224) (rest := []) (fun kM => ?_) ?_
            ·
              refine lv_if_ne (tgt := 219) hx hb dX6_bracket_204 (by decide) (fun h43 => ?_) (fun h43 => ?_)
              ·
                refine lv_iconst (v := 1) hx hb dX6_bracket_219 (by decide) ?_
                refine lv_goto (tgt := 224) hx hb dX6_bracket_220 (by decide) ?_
                exact kM _ (by try rw [if_neg h43])
              ·
                refine lv_iload_n hx hb dX6_bracket_207 rfl (lv_at hl 2 rfl) ?_
                refine lv_bipush (v := 12) hx hb dX6_bracket_208 (by decide) ?_
                refine lv_icmp_eq (tgt := 219) hx hb dX6_bracket_210 (by decide) (fun h44 => ?_) (fun h44 => ?_)
                ·
                  refine lv_iconst (v := 1) hx hb dX6_bracket_219 (by decide) ?_
                  refine lv_goto (tgt := 224) hx hb dX6_bracket_220 (by decide) ?_
                  exact kM _ (by try rw [if_pos h43]; try rw [if_pos h44])
                ·
                  refine lv_iload_n hx hb dX6_bracket_213 rfl (lv_at hl 2 rfl) ?_
                  refine lv_bipush (v := 13) hx hb dX6_bracket_214 (by decide) ?_
                  refine lv_icmp_ne (tgt := 223) hx hb dX6_bracket_216 (by decide) (fun h45 => ?_) (fun h45 => ?_)
                  ·
                    refine lv_iconst (v := 0) hx hb dX6_bracket_223 (by decide) ?_
                    exact kM _ (by try rw [if_pos h43]; try rw [if_neg h44]; try rw [if_neg h45])
                  ·
                    refine lv_iconst (v := 1) hx hb dX6_bracket_219 (by decide) ?_
                    refine lv_goto (tgt := 224) hx hb dX6_bracket_220 (by decide) ?_
                    exact kM _ (by try rw [if_pos h43]; try rw [if_neg h44]; try rw [if_pos h45])
            refine lv_istore hx hb dX6_bracket_224 hl (by decide) rfl (fun ls hl => ?_)
            have hl : lv_has ls 6 [(4, .int (if (R39.2.1 22 (R39.1 16).toNatClampNeg) = 0 then (if (if r19 = 58 then 9 else (if r19 = 61 then 10 else (if r19 = 33 then 11 else (if r19 = 62 then 14 else (if (if r19 = 60 then 1 else 0 : Int32) = 0 then (if (if r19 = 60 then 1 else 0 : Int32) = 0 then (-1) else (if r21 = 33 then 13 else (-1) : Int32) : Int32) else (if r21 = 61 then 12 else (if (if r19 = 60 then 1 else 0 : Int32) = 0 then (-1) else (if r21 = 33 then 13 else (-1) : Int32) : Int32) : Int32) : Int32) : Int32) : Int32) : Int32) : Int32) = 12 then 1 else (if (if r19 = 58 then 9 else (if r19 = 61 then 10 else (if r19 = 33 then 11 else (if r19 = 62 then 14 else (if (if r19 = 60 then 1 else 0 : Int32) = 0 then (if (if r19 = 60 then 1 else 0 : Int32) = 0 then (-1) else (if r21 = 33 then 13 else (-1) : Int32) : Int32) else (if r21 = 61 then 12 else (if (if r19 = 60 then 1 else 0 : Int32) = 0 then (-1) else (if r21 = 33 then 13 else (-1) : Int32) : Int32) : Int32) : Int32) : Int32) : Int32) : Int32) : Int32) = 13 then 1 else 0 : Int32) : Int32) else 1 : Int32)), (3, .int r40), (2, .int (if (if r19 = 60 then 1 else 0 : Int32) = 0 then 3 else 4 : Int32)), (1, .int (if r19 = 58 then 9 else (if r19 = 61 then 10 else (if r19 = 33 then 11 else (if r19 = 62 then 14 else (if (if r19 = 60 then 1 else 0 : Int32) = 0 then (if (if r19 = 60 then 1 else 0 : Int32) = 0 then (-1) else (if r21 = 33 then 13 else (-1) : Int32) : Int32) else (if r21 = 61 then 12 else (if (if r19 = 60 then 1 else 0 : Int32) = 0 then (-1) else (if r21 = 33 then 13 else (-1) : Int32) : Int32) : Int32) : Int32) : Int32) : Int32) : Int32) : Int32)), (5, .int (if r19 = 60 then 1 else 0 : Int32)), (0, .ref h)] := hl
            refine lv_aload_n hx hb dX6_bracket_226 rfl (lv_at hl 5 rfl) ?_
            refine lv_dup hx hb dX6_bracket_227 rfl ?_
            refine va_get (D := G.1) (ci := 6) (C := RX6) (T := TX6) (N := 48) hx hb hts inX6 hown hK.1 hP 0 mW_0 rfl 17 (by decide) (hts _ w_863) (fun _ h9 => h9) mF_17 dX6_bracket_228 ?_
            refine lv_iload_n hx hb dX6_bracket_231 rfl (lv_at hl 2 rfl) ?_
            refine lv_iadd hx hb dX6_bracket_232 ?_
            refine va_put (D := G.1) (ci := 6) (v := .int ((R39.1 17) + (if (if r19 = 60 then 1 else 0 : Int32) = 0 then 3 else 4 : Int32))) (ty := .int) (C := RX6) (T := TX6) (N := 48) hx hb hts inX6 tyX6 tyX6_ok nmX6 hown hK.1 hP hD hS 0 mW_0 rfl 17 (by decide) (hts _ w_863) (fun _ h9 => h9) rfl (by decide +kernel) rfl rfl mF_l17 dX6_bracket_233 (fun H locs hP hD hS => ?_)
            rw [mW_f17] at hP hD
            refine lv_aload_n hx hb dX6_bracket_236 rfl (lv_at hl 5 rfl) ?_
            refine lv_dup hx hb dX6_bracket_237 rfl ?_
            refine va_get (D := G.1) (ci := 6) (C := RX6) (T := TX6) (N := 48) hx hb hts inX6 hown hK.1 hP 0 mW_0 rfl 16 (by decide) (hts _ w_862) (fun _ h9 => h9) mF_16 dX6_bracket_238 ?_
            refine tp_i (R39.1 16) rfl ?_
            refine lv_iconst (v := 1) hx hb dX6_bracket_241 (by decide) ?_
            refine lv_iadd hx hb dX6_bracket_242 ?_
            refine va_put (D := G.1) (ci := 6) (v := .int ((R39.1 16) + 1)) (ty := .int) (C := RX6) (T := TX6) (N := 48) hx hb hts inX6 tyX6 tyX6_ok nmX6 hown hK.1 hP hD hS 0 mW_0 rfl 16 (by decide) (hts _ w_862) (fun _ h9 => h9) rfl (by decide +kernel) rfl rfl mF_l16 dX6_bracket_243 (fun H locs hP hD hS => ?_)
            rw [mW_f16] at hP hD
            refine lv_aload_n hx hb dX6_bracket_246 rfl (lv_at hl 5 rfl) ?_
            refine lv_iload_n hx hb dX6_bracket_247 rfl (lv_at hl 1 rfl) ?_
            refine lv_iload hx hb dX6_bracket_248 (lv_at hl 0 rfl) ?_
            obtain ⟨R46, hg, hE⟩ := hE
            refine kA_v (va_runV (As := [.int r40, .int (if (R39.2.1 22 (R39.1 16).toNatClampNeg) = 0 then (if (if r19 = 58 then 9 else (if r19 = 61 then 10 else (if r19 = 33 then 11 else (if r19 = 62 then 14 else (if (if r19 = 60 then 1 else 0 : Int32) = 0 then (if (if r19 = 60 then 1 else 0 : Int32) = 0 then (-1) else (if r21 = 33 then 13 else (-1) : Int32) : Int32) else (if r21 = 61 then 12 else (if (if r19 = 60 then 1 else 0 : Int32) = 0 then (-1) else (if r21 = 33 then 13 else (-1) : Int32) : Int32) : Int32) : Int32) : Int32) : Int32) : Int32) : Int32) = 12 then 1 else (if (if r19 = 58 then 9 else (if r19 = 61 then 10 else (if r19 = 33 then 11 else (if r19 = 62 then 14 else (if (if r19 = 60 then 1 else 0 : Int32) = 0 then (if (if r19 = 60 then 1 else 0 : Int32) = 0 then (-1) else (if r21 = 33 then 13 else (-1) : Int32) : Int32) else (if r21 = 61 then 12 else (if (if r19 = 60 then 1 else 0 : Int32) = 0 then (-1) else (if r21 = 33 then 13 else (-1) : Int32) : Int32) : Int32) : Int32) : Int32) : Int32) : Int32) : Int32) = 13 then 1 else 0 : Int32) : Int32) else 1 : Int32)]) (rest := []) F.1 (e_newChoice l G h q (mf (mf R39 17 ((R39.1 17) + (if (if r19 = 60 then 1 else 0 : Int32) = 0 then 3 else 4 : Int32))) 16 ((R39.1 16) + 1)) r40 (if (R39.2.1 22 (R39.1 16).toNatClampNeg) = 0 then (if (if r19 = 58 then 9 else (if r19 = 61 then 10 else (if r19 = 33 then 11 else (if r19 = 62 then 14 else (if (if r19 = 60 then 1 else 0 : Int32) = 0 then (if (if r19 = 60 then 1 else 0 : Int32) = 0 then (-1) else (if r21 = 33 then 13 else (-1) : Int32) : Int32) else (if r21 = 61 then 12 else (if (if r19 = 60 then 1 else 0 : Int32) = 0 then (-1) else (if r21 = 33 then 13 else (-1) : Int32) : Int32) : Int32) : Int32) : Int32) : Int32) : Int32) : Int32) = 12 then 1 else (if (if r19 = 58 then 9 else (if r19 = 61 then 10 else (if r19 = 33 then 11 else (if r19 = 62 then 14 else (if (if r19 = 60 then 1 else 0 : Int32) = 0 then (if (if r19 = 60 then 1 else 0 : Int32) = 0 then (-1) else (if r21 = 33 then 13 else (-1) : Int32) : Int32) else (if r21 = 61 then 12 else (if (if r19 = 60 then 1 else 0 : Int32) = 0 then (-1) else (if r21 = 33 then 13 else (-1) : Int32) : Int32) : Int32) : Int32) : Int32) : Int32) : Int32) : Int32) = 13 then 1 else 0 : Int32) : Int32) else 1 : Int32) R46 0 hg _) (cwV 2 hts (aw_V w_1019 w_1021 ws_X6_newChoice w_6 w_1022) rfl rfl rfl (by decide +kernel) ⟨by decide, by decide⟩) ⟨cS_blind, va_recv (q := (RX6, TX6, 48)) (ci := 6) (q0 := 0) hK.1 hP rfl mW_0, cS_pre hP hD hK⟩ rfl rfl hl.1 rfl (lv_room (Nat.le_of_ble_eq_true rfl)) dX6_bracket_250 ⟨Nat.le_refl _, Nat.le_refl _⟩) hD hS hA (fun u0 H locs hp hP hD hS => ?_)
            refine lv_iconst (v := 1) hx hb dX6_bracket_253 (by decide) ?_
            obtain ⟨rfl, rfl⟩ := hE
            exact en_i F hS _ () (by rfl) rfl hP hD (Nat.le_refl _) (Nat.le_refl _) dX6_bracket_254
          ·
            rw [if_pos h41] at hE
            refine lv_aload_n hx hb dX6_bracket_175 rfl (lv_at hl 5 rfl) ?_
            refine lv_dup hx hb dX6_bracket_176 rfl ?_
            refine va_get (D := G.1) (ci := 6) (C := RX6) (T := TX6) (N := 48) hx hb hts inX6 hown hK.1 hP 0 mW_0 rfl 6 (by decide) (hts _ w_852) (fun _ h9 => h9) mF_6 dX6_bracket_177 ?_
            refine lv_iconst (v := 1) hx hb dX6_bracket_180 (by decide) ?_
            refine lv_iadd hx hb dX6_bracket_181 ?_
            refine va_put (D := G.1) (ci := 6) (v := .int ((R39.1 6) + 1)) (ty := .int) (C := RX6) (T := TX6) (N := 48) hx hb hts inX6 tyX6 tyX6_ok nmX6 hown hK.1 hP hD hS 0 mW_0 rfl 6 (by decide) (hts _ w_852) (fun _ h9 => h9) rfl (by decide +kernel) rfl rfl mF_l6 dX6_bracket_182 (fun H locs hP hD hS => ?_)
            rw [mW_f6] at hP hD
            refine lv_aload_n hx hb dX6_bracket_185 rfl (lv_at hl 5 rfl) ?_
            refine va_get (D := G.1) (ci := 6) (C := RX6) (T := TX6) (N := 48) hx hb hts inX6 hown hK.1 hP 0 mW_0 rfl 9 (by decide) (hts _ w_855) (fun _ h9 => h9) mF_9 dX6_bracket_186 ?_
            refine lv_iload_n hx hb dX6_bracket_189 rfl (lv_at hl 0 rfl) ?_
            refine lv_aload_n hx hb dX6_bracket_190 rfl (lv_at hl 5 rfl) ?_
            refine va_get (D := G.1) (ci := 6) (C := RX6) (T := TX6) (N := 48) hx hb hts inX6 hown hK.1 hP 0 mW_0 rfl 6 (by decide) (hts _ w_852) (fun _ h9 => h9) mF_6 dX6_bracket_191 ?_
            refine tp_i ((R39.1 6) + 1) rfl ?_
            obtain ⟨hin, hE⟩ := hE
            refine va_iast (D := G.1) hx hb hK.1 hP hD hS 4 0 mW_g9 rfl hin dX6_bracket_194 (fun H locs hP hD hS => ?_)
            rw [mW_a9] at hP hD
            refine lv_aload_n hx hb dX6_bracket_195 rfl (lv_at hl 5 rfl) ?_
            refine va_get (D := G.1) (ci := 6) (C := RX6) (T := TX6) (N := 48) hx hb hts inX6 hown hK.1 hP 0 mW_0 rfl 22 (by decide) (hts _ w_868) (fun _ h9 => h9) mF_22 dX6_bracket_196 ?_
            refine lv_aload_n hx hb dX6_bracket_199 rfl (lv_at hl 5 rfl) ?_
            refine va_get (D := G.1) (ci := 6) (C := RX6) (T := TX6) (N := 48) hx hb hts inX6 hown hK.1 hP 0 mW_0 rfl 16 (by decide) (hts _ w_862) (fun _ h9 => h9) mF_16 dX6_bracket_200 ?_
            refine tp_i (R39.1 16) rfl ?_
            obtain ⟨hin, hE⟩ := hE
            refine va_zald (D := G.1) hx hb hK.1 hP 15 3 mW_g22 rfl hin dX6_bracket_203 ?_
            refine tp_i (R39.2.1 22 (R39.1 16).toNatClampNeg) rfl ?_
            refine jn_v (v := (if (R39.2.1 22 (R39.1 16).toNatClampNeg) = 0 then (if (if r19 = 58 then 9 else (if r19 = 61 then 10 else (if r19 = 33 then 11 else (if r19 = 62 then 14 else (if (if r19 = 60 then 1 else 0 : Int32) = 0 then (if (if r19 = 60 then 1 else 0 : Int32) = 0 then (-1) else (if r21 = 33 then 13 else (-1) : Int32) : Int32) else (if r21 = 61 then 12 else (if (if r19 = 60 then 1 else 0 : Int32) = 0 then (-1) else (if r21 = 33 then 13 else (-1) : Int32) : Int32) : Int32) : Int32) : Int32) : Int32) : Int32) : Int32) = 12 then 1 else (if (if r19 = 58 then 9 else (if r19 = 61 then 10 else (if r19 = 33 then 11 else (if r19 = 62 then 14 else (if (if r19 = 60 then 1 else 0 : Int32) = 0 then (if (if r19 = 60 then 1 else 0 : Int32) = 0 then (-1) else (if r21 = 33 then 13 else (-1) : Int32) : Int32) else (if r21 = 61 then 12 else (if (if r19 = 60 then 1 else 0 : Int32) = 0 then (-1) else (if r21 = 33 then 13 else (-1) : Int32) : Int32) : Int32) : Int32) : Int32) : Int32) : Int32) : Int32) = 13 then 1 else 0 : Int32) : Int32) else 1 : Int32)) (pcM := 224) (rest := []) (fun kM => ?_) ?_
            ·
              refine lv_if_ne (tgt := 219) hx hb dX6_bracket_204 (by decide) (fun h49 => ?_) (fun h49 => ?_)
              ·
                refine lv_iconst (v := 1) hx hb dX6_bracket_219 (by decide) ?_
                refine lv_goto (tgt := 224) hx hb dX6_bracket_220 (by decide) ?_
                exact kM _ (by try rw [if_neg h49])
              ·
                refine lv_iload_n hx hb dX6_bracket_207 rfl (lv_at hl 2 rfl) ?_
                refine lv_bipush (v := 12) hx hb dX6_bracket_208 (by decide) ?_
                refine lv_icmp_eq (tgt := 219) hx hb dX6_bracket_210 (by decide) (fun h50 => ?_) (fun h50 => ?_)
                ·
                  refine lv_iconst (v := 1) hx hb dX6_bracket_219 (by decide) ?_
                  refine lv_goto (tgt := 224) hx hb dX6_bracket_220 (by decide) ?_
                  exact kM _ (by try rw [if_pos h49]; try rw [if_pos h50])
                ·
                  refine lv_iload_n hx hb dX6_bracket_213 rfl (lv_at hl 2 rfl) ?_
                  refine lv_bipush (v := 13) hx hb dX6_bracket_214 (by decide) ?_
                  refine lv_icmp_ne (tgt := 223) hx hb dX6_bracket_216 (by decide) (fun h51 => ?_) (fun h51 => ?_)
                  ·
                    refine lv_iconst (v := 0) hx hb dX6_bracket_223 (by decide) ?_
                    exact kM _ (by try rw [if_pos h49]; try rw [if_neg h50]; try rw [if_neg h51])
                  ·
                    refine lv_iconst (v := 1) hx hb dX6_bracket_219 (by decide) ?_
                    refine lv_goto (tgt := 224) hx hb dX6_bracket_220 (by decide) ?_
                    exact kM _ (by try rw [if_pos h49]; try rw [if_neg h50]; try rw [if_pos h51])
            refine lv_istore hx hb dX6_bracket_224 hl (by decide) rfl (fun ls hl => ?_)
            have hl : lv_has ls 6 [(4, .int (if (R39.2.1 22 (R39.1 16).toNatClampNeg) = 0 then (if (if r19 = 58 then 9 else (if r19 = 61 then 10 else (if r19 = 33 then 11 else (if r19 = 62 then 14 else (if (if r19 = 60 then 1 else 0 : Int32) = 0 then (if (if r19 = 60 then 1 else 0 : Int32) = 0 then (-1) else (if r21 = 33 then 13 else (-1) : Int32) : Int32) else (if r21 = 61 then 12 else (if (if r19 = 60 then 1 else 0 : Int32) = 0 then (-1) else (if r21 = 33 then 13 else (-1) : Int32) : Int32) : Int32) : Int32) : Int32) : Int32) : Int32) : Int32) = 12 then 1 else (if (if r19 = 58 then 9 else (if r19 = 61 then 10 else (if r19 = 33 then 11 else (if r19 = 62 then 14 else (if (if r19 = 60 then 1 else 0 : Int32) = 0 then (if (if r19 = 60 then 1 else 0 : Int32) = 0 then (-1) else (if r21 = 33 then 13 else (-1) : Int32) : Int32) else (if r21 = 61 then 12 else (if (if r19 = 60 then 1 else 0 : Int32) = 0 then (-1) else (if r21 = 33 then 13 else (-1) : Int32) : Int32) : Int32) : Int32) : Int32) : Int32) : Int32) : Int32) = 13 then 1 else 0 : Int32) : Int32) else 1 : Int32)), (3, .int r40), (2, .int (if (if r19 = 60 then 1 else 0 : Int32) = 0 then 3 else 4 : Int32)), (1, .int (if r19 = 58 then 9 else (if r19 = 61 then 10 else (if r19 = 33 then 11 else (if r19 = 62 then 14 else (if (if r19 = 60 then 1 else 0 : Int32) = 0 then (if (if r19 = 60 then 1 else 0 : Int32) = 0 then (-1) else (if r21 = 33 then 13 else (-1) : Int32) : Int32) else (if r21 = 61 then 12 else (if (if r19 = 60 then 1 else 0 : Int32) = 0 then (-1) else (if r21 = 33 then 13 else (-1) : Int32) : Int32) : Int32) : Int32) : Int32) : Int32) : Int32) : Int32)), (5, .int (if r19 = 60 then 1 else 0 : Int32)), (0, .ref h)] := hl
            refine lv_aload_n hx hb dX6_bracket_226 rfl (lv_at hl 5 rfl) ?_
            refine lv_dup hx hb dX6_bracket_227 rfl ?_
            refine va_get (D := G.1) (ci := 6) (C := RX6) (T := TX6) (N := 48) hx hb hts inX6 hown hK.1 hP 0 mW_0 rfl 17 (by decide) (hts _ w_863) (fun _ h9 => h9) mF_17 dX6_bracket_228 ?_
            refine tp_i (R39.1 17) rfl ?_
            refine lv_iload_n hx hb dX6_bracket_231 rfl (lv_at hl 2 rfl) ?_
            refine lv_iadd hx hb dX6_bracket_232 ?_
            refine va_put (D := G.1) (ci := 6) (v := .int ((R39.1 17) + (if (if r19 = 60 then 1 else 0 : Int32) = 0 then 3 else 4 : Int32))) (ty := .int) (C := RX6) (T := TX6) (N := 48) hx hb hts inX6 tyX6 tyX6_ok nmX6 hown hK.1 hP hD hS 0 mW_0 rfl 17 (by decide) (hts _ w_863) (fun _ h9 => h9) rfl (by decide +kernel) rfl rfl mF_l17 dX6_bracket_233 (fun H locs hP hD hS => ?_)
            rw [mW_f17] at hP hD
            refine lv_aload_n hx hb dX6_bracket_236 rfl (lv_at hl 5 rfl) ?_
            refine lv_dup hx hb dX6_bracket_237 rfl ?_
            refine va_get (D := G.1) (ci := 6) (C := RX6) (T := TX6) (N := 48) hx hb hts inX6 hown hK.1 hP 0 mW_0 rfl 16 (by decide) (hts _ w_862) (fun _ h9 => h9) mF_16 dX6_bracket_238 ?_
            refine tp_i (R39.1 16) rfl ?_
            refine lv_iconst (v := 1) hx hb dX6_bracket_241 (by decide) ?_
            refine lv_iadd hx hb dX6_bracket_242 ?_
            refine va_put (D := G.1) (ci := 6) (v := .int ((R39.1 16) + 1)) (ty := .int) (C := RX6) (T := TX6) (N := 48) hx hb hts inX6 tyX6 tyX6_ok nmX6 hown hK.1 hP hD hS 0 mW_0 rfl 16 (by decide) (hts _ w_862) (fun _ h9 => h9) rfl (by decide +kernel) rfl rfl mF_l16 dX6_bracket_243 (fun H locs hP hD hS => ?_)
            rw [mW_f16] at hP hD
            refine lv_aload_n hx hb dX6_bracket_246 rfl (lv_at hl 5 rfl) ?_
            refine lv_iload_n hx hb dX6_bracket_247 rfl (lv_at hl 1 rfl) ?_
            refine lv_iload hx hb dX6_bracket_248 (lv_at hl 0 rfl) ?_
            obtain ⟨R52, hg, hE⟩ := hE
            refine kA_v (va_runV (As := [.int r40, .int (if (R39.2.1 22 (R39.1 16).toNatClampNeg) = 0 then (if (if r19 = 58 then 9 else (if r19 = 61 then 10 else (if r19 = 33 then 11 else (if r19 = 62 then 14 else (if (if r19 = 60 then 1 else 0 : Int32) = 0 then (if (if r19 = 60 then 1 else 0 : Int32) = 0 then (-1) else (if r21 = 33 then 13 else (-1) : Int32) : Int32) else (if r21 = 61 then 12 else (if (if r19 = 60 then 1 else 0 : Int32) = 0 then (-1) else (if r21 = 33 then 13 else (-1) : Int32) : Int32) : Int32) : Int32) : Int32) : Int32) : Int32) : Int32) = 12 then 1 else (if (if r19 = 58 then 9 else (if r19 = 61 then 10 else (if r19 = 33 then 11 else (if r19 = 62 then 14 else (if (if r19 = 60 then 1 else 0 : Int32) = 0 then (if (if r19 = 60 then 1 else 0 : Int32) = 0 then (-1) else (if r21 = 33 then 13 else (-1) : Int32) : Int32) else (if r21 = 61 then 12 else (if (if r19 = 60 then 1 else 0 : Int32) = 0 then (-1) else (if r21 = 33 then 13 else (-1) : Int32) : Int32) : Int32) : Int32) : Int32) : Int32) : Int32) : Int32) = 13 then 1 else 0 : Int32) : Int32) else 1 : Int32)]) (rest := []) F.1 (e_newChoice l G h q (mf (mf (ma (mf R39 6 ((R39.1 6) + 1)) 9 r40.toNatClampNeg ((R39.1 6) + 1)) 17 ((R39.1 17) + (if (if r19 = 60 then 1 else 0 : Int32) = 0 then 3 else 4 : Int32))) 16 ((R39.1 16) + 1)) r40 (if (R39.2.1 22 (R39.1 16).toNatClampNeg) = 0 then (if (if r19 = 58 then 9 else (if r19 = 61 then 10 else (if r19 = 33 then 11 else (if r19 = 62 then 14 else (if (if r19 = 60 then 1 else 0 : Int32) = 0 then (if (if r19 = 60 then 1 else 0 : Int32) = 0 then (-1) else (if r21 = 33 then 13 else (-1) : Int32) : Int32) else (if r21 = 61 then 12 else (if (if r19 = 60 then 1 else 0 : Int32) = 0 then (-1) else (if r21 = 33 then 13 else (-1) : Int32) : Int32) : Int32) : Int32) : Int32) : Int32) : Int32) : Int32) = 12 then 1 else (if (if r19 = 58 then 9 else (if r19 = 61 then 10 else (if r19 = 33 then 11 else (if r19 = 62 then 14 else (if (if r19 = 60 then 1 else 0 : Int32) = 0 then (if (if r19 = 60 then 1 else 0 : Int32) = 0 then (-1) else (if r21 = 33 then 13 else (-1) : Int32) : Int32) else (if r21 = 61 then 12 else (if (if r19 = 60 then 1 else 0 : Int32) = 0 then (-1) else (if r21 = 33 then 13 else (-1) : Int32) : Int32) : Int32) : Int32) : Int32) : Int32) : Int32) : Int32) = 13 then 1 else 0 : Int32) : Int32) else 1 : Int32) R52 0 hg _) (cwV 2 hts (aw_V w_1019 w_1021 ws_X6_newChoice w_6 w_1022) rfl rfl rfl (by decide +kernel) ⟨by decide, by decide⟩) ⟨cS_blind, va_recv (q := (RX6, TX6, 48)) (ci := 6) (q0 := 0) hK.1 hP rfl mW_0, cS_pre hP hD hK⟩ rfl rfl hl.1 rfl (lv_room (Nat.le_of_ble_eq_true rfl)) dX6_bracket_250 ⟨Nat.le_refl _, Nat.le_refl _⟩) hD hS hA (fun u0 H locs hp hP hD hS => ?_)
            refine lv_iconst (v := 1) hx hb dX6_bracket_253 (by decide) ?_
            obtain ⟨rfl, rfl⟩ := hE
            exact en_i F hS _ () (by rfl) rfl hP hD (Nat.le_refl _) (Nat.le_refl _) dX6_bracket_254
        ·
          rw [if_pos h38] at hE
          refine lv_aload_n hx hb dX6_bracket_153 rfl (lv_at hl 5 rfl) ?_
          refine va_get (D := G.1) (ci := 6) (C := RX6) (T := TX6) (N := 48) hx hb hts inX6 hown hK.1 hP 0 mW_0 rfl 6 (by decide) (hts _ w_852) (fun _ h9 => h9) mF_6 dX6_bracket_154 ?_
          refine lv_iconst (v := 4) hx hb dX6_bracket_157 (by decide) ?_
          refine lv_icmp_ne (tgt := 163) hx hb dX6_bracket_158 (by decide) (fun h54 => ?_) (fun h54 => ?_)
          ·
            rw [if_neg h54] at hE
            refine lv_aload_n hx hb dX6_bracket_163 rfl (lv_at hl 5 rfl) ?_
            refine lv_iload_n hx hb dX6_bracket_164 rfl (lv_at hl 1 rfl) ?_
            obtain ⟨R55, r56, hg, hE⟩ := hE
            refine kA_i (va_runV (As := [.int (if r19 = 58 then 9 else (if r19 = 61 then 10 else (if r19 = 33 then 11 else (if r19 = 62 then 14 else (if (if r19 = 60 then 1 else 0 : Int32) = 0 then (if (if r19 = 60 then 1 else 0 : Int32) = 0 then (-1) else (if r21 = 33 then 13 else (-1) : Int32) : Int32) else (if r21 = 61 then 12 else (if (if r19 = 60 then 1 else 0 : Int32) = 0 then (-1) else (if r21 = 33 then 13 else (-1) : Int32) : Int32) : Int32) : Int32) : Int32) : Int32) : Int32) : Int32)]) (rest := []) F.1 (e_create l G h q R20 (if r19 = 58 then 9 else (if r19 = 61 then 10 else (if r19 = 33 then 11 else (if r19 = 62 then 14 else (if (if r19 = 60 then 1 else 0 : Int32) = 0 then (if (if r19 = 60 then 1 else 0 : Int32) = 0 then (-1) else (if r21 = 33 then 13 else (-1) : Int32) : Int32) else (if r21 = 61 then 12 else (if (if r19 = 60 then 1 else 0 : Int32) = 0 then (-1) else (if r21 = 33 then 13 else (-1) : Int32) : Int32) : Int32) : Int32) : Int32) : Int32) : Int32) : Int32) R55 r56 hg _) (cwV 1 hts (aw_V w_1023 w_1025 ws_X6_create w_6 w_1026) rfl rfl rfl (by decide +kernel) ⟨by decide, by decide⟩) ⟨cS_blind, va_recv (q := (RX6, TX6, 48)) (ci := 6) (q0 := 0) hK.1 hP rfl mW_0, cS_pre hP hD hK⟩ rfl rfl hl.1 rfl (lv_room (Nat.le_of_ble_eq_true rfl)) dX6_bracket_165 ⟨Nat.le_refl _, Nat.le_refl _⟩) hD hS hA (fun r9 u0 H locs hp hP hD hS => ?_)
            have hp := hp.symm; subst hp
            refine lv_istore_n hx hb dX6_bracket_168 rfl hl (by decide) rfl (fun ls hl => ?_)
            have hl : lv_has ls 6 [(3, .int r56), (2, .int (if (if r19 = 60 then 1 else 0 : Int32) = 0 then 3 else 4 : Int32)), (1, .int (if r19 = 58 then 9 else (if r19 = 61 then 10 else (if r19 = 33 then 11 else (if r19 = 62 then 14 else (if (if r19 = 60 then 1 else 0 : Int32) = 0 then (if (if r19 = 60 then 1 else 0 : Int32) = 0 then (-1) else (if r21 = 33 then 13 else (-1) : Int32) : Int32) else (if r21 = 61 then 12 else (if (if r19 = 60 then 1 else 0 : Int32) = 0 then (-1) else (if r21 = 33 then 13 else (-1) : Int32) : Int32) : Int32) : Int32) : Int32) : Int32) : Int32) : Int32)), (5, .int (if r19 = 60 then 1 else 0 : Int32)), (4, .int r21), (0, .ref h)] := hl
            refine lv_iload_n hx hb dX6_bracket_169 rfl (lv_at hl 2 rfl) ?_
            refine lv_bipush (v := 8) hx hb dX6_bracket_170 (by decide) ?_
            refine lv_icmp_ne (tgt := 195) hx hb dX6_bracket_172 (by decide) (fun h57 => ?_) (fun h57 => ?_)
            ·
              rw [if_neg h57] at hE
              refine lv_aload_n hx hb dX6_bracket_195 rfl (lv_at hl 5 rfl) ?_
              refine va_get (D := G.1) (ci := 6) (C := RX6) (T := TX6) (N := 48) hx hb hts inX6 hown hK.1 hP 0 mW_0 rfl 22 (by decide) (hts _ w_868) (fun _ h9 => h9) mF_22 dX6_bracket_196 ?_
              refine lv_aload_n hx hb dX6_bracket_199 rfl (lv_at hl 5 rfl) ?_
              refine va_get (D := G.1) (ci := 6) (C := RX6) (T := TX6) (N := 48) hx hb hts inX6 hown hK.1 hP 0 mW_0 rfl 16 (by decide) (hts _ w_862) (fun _ h9 => h9) mF_16 dX6_bracket_200 ?_
              obtain ⟨hin, hE⟩ := hE
              refine va_zald (D := G.1) hx hb hK.1 hP 15 3 mW_g22 rfl hin dX6_bracket_203 ?_
              refine jn_v (v := (if (R55.2.1 22 (R55.1 16).toNatClampNeg) = 0 then (if (if r19 = 58 then 9 else (if r19 = 61 then 10 else (if r19 = 33 then 11 else (if r19 = 62 then 14 else (if (if r19 = 60 then 1 else 0 : Int32) = 0 then (if (if r19 = 60 then 1 else 0 : Int32) = 0 then (-1) else (if r21 = 33 then 13 else (-1) : Int32) : Int32) else (if r21 = 61 then 12 else (if (if r19 = 60 then 1 else 0 : Int32) = 0 then (-1) else (if r21 = 33 then 13 else (-1) : Int32) : Int32) : Int32) : Int32) : Int32) : Int32) : Int32) : Int32) = 12 then 1 else (if (if r19 = 58 then 9 else (if r19 = 61 then 10 else (if r19 = 33 then 11 else (if r19 = 62 then 14 else (if (if r19 = 60 then 1 else 0 : Int32) = 0 then (if (if r19 = 60 then 1 else 0 : Int32) = 0 then (-1) else (if r21 = 33 then 13 else (-1) : Int32) : Int32) else (if r21 = 61 then 12 else (if (if r19 = 60 then 1 else 0 : Int32) = 0 then (-1) else (if r21 = 33 then 13 else (-1) : Int32) : Int32) : Int32) : Int32) : Int32) : Int32) : Int32) : Int32) = 13 then 1 else 0 : Int32) : Int32) else 1 : Int32)) (pcM := 224) (rest := []) (fun kM => ?_) ?_
              ·
                refine lv_if_ne (tgt := 219) hx hb dX6_bracket_204 (by decide) (fun h59 => ?_) (fun h59 => ?_)
                ·
                  refine lv_iconst (v := 1) hx hb dX6_bracket_219 (by decide) ?_
                  refine lv_goto (tgt := 224) hx hb dX6_bracket_220 (by decide) ?_
                  exact kM _ (by try rw [if_neg h59])
                ·
                  refine lv_iload_n hx hb dX6_bracket_207 rfl (lv_at hl 2 rfl) ?_
                  refine lv_bipush (v := 12) hx hb dX6_bracket_208 (by decide) ?_
                  refine lv_icmp_eq (tgt := 219) hx hb dX6_bracket_210 (by decide) (fun h60 => ?_) (fun h60 => ?_)
                  ·
                    refine lv_iconst (v := 1) hx hb dX6_bracket_219 (by decide) ?_
                    refine lv_goto (tgt := 224) hx hb dX6_bracket_220 (by decide) ?_
                    exact kM _ (by try rw [if_pos h59]; try rw [if_pos h60])
                  ·
                    refine lv_iload_n hx hb dX6_bracket_213 rfl (lv_at hl 2 rfl) ?_
                    refine lv_bipush (v := 13) hx hb dX6_bracket_214 (by decide) ?_
                    refine lv_icmp_ne (tgt := 223) hx hb dX6_bracket_216 (by decide) (fun h61 => ?_) (fun h61 => ?_)
                    ·
                      refine lv_iconst (v := 0) hx hb dX6_bracket_223 (by decide) ?_
                      exact kM _ (by try rw [if_pos h59]; try rw [if_neg h60]; try rw [if_neg h61])
                    ·
                      refine lv_iconst (v := 1) hx hb dX6_bracket_219 (by decide) ?_
                      refine lv_goto (tgt := 224) hx hb dX6_bracket_220 (by decide) ?_
                      exact kM _ (by try rw [if_pos h59]; try rw [if_neg h60]; try rw [if_pos h61])
              refine lv_istore hx hb dX6_bracket_224 hl (by decide) rfl (fun ls hl => ?_)
              have hl : lv_has ls 6 [(4, .int (if (R55.2.1 22 (R55.1 16).toNatClampNeg) = 0 then (if (if r19 = 58 then 9 else (if r19 = 61 then 10 else (if r19 = 33 then 11 else (if r19 = 62 then 14 else (if (if r19 = 60 then 1 else 0 : Int32) = 0 then (if (if r19 = 60 then 1 else 0 : Int32) = 0 then (-1) else (if r21 = 33 then 13 else (-1) : Int32) : Int32) else (if r21 = 61 then 12 else (if (if r19 = 60 then 1 else 0 : Int32) = 0 then (-1) else (if r21 = 33 then 13 else (-1) : Int32) : Int32) : Int32) : Int32) : Int32) : Int32) : Int32) : Int32) = 12 then 1 else (if (if r19 = 58 then 9 else (if r19 = 61 then 10 else (if r19 = 33 then 11 else (if r19 = 62 then 14 else (if (if r19 = 60 then 1 else 0 : Int32) = 0 then (if (if r19 = 60 then 1 else 0 : Int32) = 0 then (-1) else (if r21 = 33 then 13 else (-1) : Int32) : Int32) else (if r21 = 61 then 12 else (if (if r19 = 60 then 1 else 0 : Int32) = 0 then (-1) else (if r21 = 33 then 13 else (-1) : Int32) : Int32) : Int32) : Int32) : Int32) : Int32) : Int32) : Int32) = 13 then 1 else 0 : Int32) : Int32) else 1 : Int32)), (3, .int r56), (2, .int (if (if r19 = 60 then 1 else 0 : Int32) = 0 then 3 else 4 : Int32)), (1, .int (if r19 = 58 then 9 else (if r19 = 61 then 10 else (if r19 = 33 then 11 else (if r19 = 62 then 14 else (if (if r19 = 60 then 1 else 0 : Int32) = 0 then (if (if r19 = 60 then 1 else 0 : Int32) = 0 then (-1) else (if r21 = 33 then 13 else (-1) : Int32) : Int32) else (if r21 = 61 then 12 else (if (if r19 = 60 then 1 else 0 : Int32) = 0 then (-1) else (if r21 = 33 then 13 else (-1) : Int32) : Int32) : Int32) : Int32) : Int32) : Int32) : Int32) : Int32)), (5, .int (if r19 = 60 then 1 else 0 : Int32)), (0, .ref h)] := hl
              refine lv_aload_n hx hb dX6_bracket_226 rfl (lv_at hl 5 rfl) ?_
              refine lv_dup hx hb dX6_bracket_227 rfl ?_
              refine va_get (D := G.1) (ci := 6) (C := RX6) (T := TX6) (N := 48) hx hb hts inX6 hown hK.1 hP 0 mW_0 rfl 17 (by decide) (hts _ w_863) (fun _ h9 => h9) mF_17 dX6_bracket_228 ?_
              refine lv_iload_n hx hb dX6_bracket_231 rfl (lv_at hl 2 rfl) ?_
              refine lv_iadd hx hb dX6_bracket_232 ?_
              refine va_put (D := G.1) (ci := 6) (v := .int ((R55.1 17) + (if (if r19 = 60 then 1 else 0 : Int32) = 0 then 3 else 4 : Int32))) (ty := .int) (C := RX6) (T := TX6) (N := 48) hx hb hts inX6 tyX6 tyX6_ok nmX6 hown hK.1 hP hD hS 0 mW_0 rfl 17 (by decide) (hts _ w_863) (fun _ h9 => h9) rfl (by decide +kernel) rfl rfl mF_l17 dX6_bracket_233 (fun H locs hP hD hS => ?_)
              rw [mW_f17] at hP hD
              refine lv_aload_n hx hb dX6_bracket_236 rfl (lv_at hl 5 rfl) ?_
              refine lv_dup hx hb dX6_bracket_237 rfl ?_
              refine va_get (D := G.1) (ci := 6) (C := RX6) (T := TX6) (N := 48) hx hb hts inX6 hown hK.1 hP 0 mW_0 rfl 16 (by decide) (hts _ w_862) (fun _ h9 => h9) mF_16 dX6_bracket_238 ?_
              refine tp_i (R55.1 16) rfl ?_
              refine lv_iconst (v := 1) hx hb dX6_bracket_241 (by decide) ?_
              refine lv_iadd hx hb dX6_bracket_242 ?_
              refine va_put (D := G.1) (ci := 6) (v := .int ((R55.1 16) + 1)) (ty := .int) (C := RX6) (T := TX6) (N := 48) hx hb hts inX6 tyX6 tyX6_ok nmX6 hown hK.1 hP hD hS 0 mW_0 rfl 16 (by decide) (hts _ w_862) (fun _ h9 => h9) rfl (by decide +kernel) rfl rfl mF_l16 dX6_bracket_243 (fun H locs hP hD hS => ?_)
              rw [mW_f16] at hP hD
              refine lv_aload_n hx hb dX6_bracket_246 rfl (lv_at hl 5 rfl) ?_
              refine lv_iload_n hx hb dX6_bracket_247 rfl (lv_at hl 1 rfl) ?_
              refine lv_iload hx hb dX6_bracket_248 (lv_at hl 0 rfl) ?_
              obtain ⟨R62, hg, hE⟩ := hE
              refine kA_v (va_runV (As := [.int r56, .int (if (R55.2.1 22 (R55.1 16).toNatClampNeg) = 0 then (if (if r19 = 58 then 9 else (if r19 = 61 then 10 else (if r19 = 33 then 11 else (if r19 = 62 then 14 else (if (if r19 = 60 then 1 else 0 : Int32) = 0 then (if (if r19 = 60 then 1 else 0 : Int32) = 0 then (-1) else (if r21 = 33 then 13 else (-1) : Int32) : Int32) else (if r21 = 61 then 12 else (if (if r19 = 60 then 1 else 0 : Int32) = 0 then (-1) else (if r21 = 33 then 13 else (-1) : Int32) : Int32) : Int32) : Int32) : Int32) : Int32) : Int32) : Int32) = 12 then 1 else (if (if r19 = 58 then 9 else (if r19 = 61 then 10 else (if r19 = 33 then 11 else (if r19 = 62 then 14 else (if (if r19 = 60 then 1 else 0 : Int32) = 0 then (if (if r19 = 60 then 1 else 0 : Int32) = 0 then (-1) else (if r21 = 33 then 13 else (-1) : Int32) : Int32) else (if r21 = 61 then 12 else (if (if r19 = 60 then 1 else 0 : Int32) = 0 then (-1) else (if r21 = 33 then 13 else (-1) : Int32) : Int32) : Int32) : Int32) : Int32) : Int32) : Int32) : Int32) = 13 then 1 else 0 : Int32) : Int32) else 1 : Int32)]) (rest := []) F.1 (e_newChoice l G h q (mf (mf R55 17 ((R55.1 17) + (if (if r19 = 60 then 1 else 0 : Int32) = 0 then 3 else 4 : Int32))) 16 ((R55.1 16) + 1)) r56 (if (R55.2.1 22 (R55.1 16).toNatClampNeg) = 0 then (if (if r19 = 58 then 9 else (if r19 = 61 then 10 else (if r19 = 33 then 11 else (if r19 = 62 then 14 else (if (if r19 = 60 then 1 else 0 : Int32) = 0 then (if (if r19 = 60 then 1 else 0 : Int32) = 0 then (-1) else (if r21 = 33 then 13 else (-1) : Int32) : Int32) else (if r21 = 61 then 12 else (if (if r19 = 60 then 1 else 0 : Int32) = 0 then (-1) else (if r21 = 33 then 13 else (-1) : Int32) : Int32) : Int32) : Int32) : Int32) : Int32) : Int32) : Int32) = 12 then 1 else (if (if r19 = 58 then 9 else (if r19 = 61 then 10 else (if r19 = 33 then 11 else (if r19 = 62 then 14 else (if (if r19 = 60 then 1 else 0 : Int32) = 0 then (if (if r19 = 60 then 1 else 0 : Int32) = 0 then (-1) else (if r21 = 33 then 13 else (-1) : Int32) : Int32) else (if r21 = 61 then 12 else (if (if r19 = 60 then 1 else 0 : Int32) = 0 then (-1) else (if r21 = 33 then 13 else (-1) : Int32) : Int32) : Int32) : Int32) : Int32) : Int32) : Int32) : Int32) = 13 then 1 else 0 : Int32) : Int32) else 1 : Int32) R62 0 hg _) (cwV 2 hts (aw_V w_1019 w_1021 ws_X6_newChoice w_6 w_1022) rfl rfl rfl (by decide +kernel) ⟨by decide, by decide⟩) ⟨cS_blind, va_recv (q := (RX6, TX6, 48)) (ci := 6) (q0 := 0) hK.1 hP rfl mW_0, cS_pre hP hD hK⟩ rfl rfl hl.1 rfl (lv_room (Nat.le_of_ble_eq_true rfl)) dX6_bracket_250 ⟨Nat.le_refl _, Nat.le_refl _⟩) hD hS hA (fun u0 H locs hp hP hD hS => ?_)
              refine lv_iconst (v := 1) hx hb dX6_bracket_253 (by decide) ?_
              obtain ⟨rfl, rfl⟩ := hE
              exact en_i F hS _ () (by rfl) rfl hP hD (Nat.le_refl _) (Nat.le_refl _) dX6_bracket_254
            ·
              rw [if_pos h57] at hE
              refine lv_aload_n hx hb dX6_bracket_175 rfl (lv_at hl 5 rfl) ?_
              refine lv_dup hx hb dX6_bracket_176 rfl ?_
              refine va_get (D := G.1) (ci := 6) (C := RX6) (T := TX6) (N := 48) hx hb hts inX6 hown hK.1 hP 0 mW_0 rfl 6 (by decide) (hts _ w_852) (fun _ h9 => h9) mF_6 dX6_bracket_177 ?_
              refine lv_iconst (v := 1) hx hb dX6_bracket_180 (by decide) ?_
              refine lv_iadd hx hb dX6_bracket_181 ?_
              refine va_put (D := G.1) (ci := 6) (v := .int ((R55.1 6) + 1)) (ty := .int) (C := RX6) (T := TX6) (N := 48) hx hb hts inX6 tyX6 tyX6_ok nmX6 hown hK.1 hP hD hS 0 mW_0 rfl 6 (by decide) (hts _ w_852) (fun _ h9 => h9) rfl (by decide +kernel) rfl rfl mF_l6 dX6_bracket_182 (fun H locs hP hD hS => ?_)
              rw [mW_f6] at hP hD
              refine lv_aload_n hx hb dX6_bracket_185 rfl (lv_at hl 5 rfl) ?_
              refine va_get (D := G.1) (ci := 6) (C := RX6) (T := TX6) (N := 48) hx hb hts inX6 hown hK.1 hP 0 mW_0 rfl 9 (by decide) (hts _ w_855) (fun _ h9 => h9) mF_9 dX6_bracket_186 ?_
              refine lv_iload_n hx hb dX6_bracket_189 rfl (lv_at hl 0 rfl) ?_
              refine lv_aload_n hx hb dX6_bracket_190 rfl (lv_at hl 5 rfl) ?_
              refine va_get (D := G.1) (ci := 6) (C := RX6) (T := TX6) (N := 48) hx hb hts inX6 hown hK.1 hP 0 mW_0 rfl 6 (by decide) (hts _ w_852) (fun _ h9 => h9) mF_6 dX6_bracket_191 ?_
              refine tp_i ((R55.1 6) + 1) rfl ?_
              obtain ⟨hin, hE⟩ := hE
              refine va_iast (D := G.1) hx hb hK.1 hP hD hS 4 0 mW_g9 rfl hin dX6_bracket_194 (fun H locs hP hD hS => ?_)
              rw [mW_a9] at hP hD
              refine lv_aload_n hx hb dX6_bracket_195 rfl (lv_at hl 5 rfl) ?_
              refine va_get (D := G.1) (ci := 6) (C := RX6) (T := TX6) (N := 48) hx hb hts inX6 hown hK.1 hP 0 mW_0 rfl 22 (by decide) (hts _ w_868) (fun _ h9 => h9) mF_22 dX6_bracket_196 ?_
              refine lv_aload_n hx hb dX6_bracket_199 rfl (lv_at hl 5 rfl) ?_
              refine va_get (D := G.1) (ci := 6) (C := RX6) (T := TX6) (N := 48) hx hb hts inX6 hown hK.1 hP 0 mW_0 rfl 16 (by decide) (hts _ w_862) (fun _ h9 => h9) mF_16 dX6_bracket_200 ?_
              refine tp_i (R55.1 16) rfl ?_
              obtain ⟨hin, hE⟩ := hE
              refine va_zald (D := G.1) hx hb hK.1 hP 15 3 mW_g22 rfl hin dX6_bracket_203 ?_
              refine tp_i (R55.2.1 22 (R55.1 16).toNatClampNeg) rfl ?_
              refine jn_v (v := (if (R55.2.1 22 (R55.1 16).toNatClampNeg) = 0 then (if (if r19 = 58 then 9 else (if r19 = 61 then 10 else (if r19 = 33 then 11 else (if r19 = 62 then 14 else (if (if r19 = 60 then 1 else 0 : Int32) = 0 then (if (if r19 = 60 then 1 else 0 : Int32) = 0 then (-1) else (if r21 = 33 then 13 else (-1) : Int32) : Int32) else (if r21 = 61 then 12 else (if (if r19 = 60 then 1 else 0 : Int32) = 0 then (-1) else (if r21 = 33 then 13 else (-1) : Int32) : Int32) : Int32) : Int32) : Int32) : Int32) : Int32) : Int32) = 12 then 1 else (if (if r19 = 58 then 9 else (if r19 = 61 then 10 else (if r19 = 33 then 11 else (if r19 = 62 then 14 else (if (if r19 = 60 then 1 else 0 : Int32) = 0 then (if (if r19 = 60 then 1 else 0 : Int32) = 0 then (-1) else (if r21 = 33 then 13 else (-1) : Int32) : Int32) else (if r21 = 61 then 12 else (if (if r19 = 60 then 1 else 0 : Int32) = 0 then (-1) else (if r21 = 33 then 13 else (-1) : Int32) : Int32) : Int32) : Int32) : Int32) : Int32) : Int32) : Int32) = 13 then 1 else 0 : Int32) : Int32) else 1 : Int32)) (pcM := 224) (rest := []) (fun kM => ?_) ?_
              ·
                refine lv_if_ne (tgt := 219) hx hb dX6_bracket_204 (by decide) (fun h65 => ?_) (fun h65 => ?_)
                ·
                  refine lv_iconst (v := 1) hx hb dX6_bracket_219 (by decide) ?_
                  refine lv_goto (tgt := 224) hx hb dX6_bracket_220 (by decide) ?_
                  exact kM _ (by try rw [if_neg h65])
                ·
                  refine lv_iload_n hx hb dX6_bracket_207 rfl (lv_at hl 2 rfl) ?_
                  refine lv_bipush (v := 12) hx hb dX6_bracket_208 (by decide) ?_
                  refine lv_icmp_eq (tgt := 219) hx hb dX6_bracket_210 (by decide) (fun h66 => ?_) (fun h66 => ?_)
                  ·
                    refine lv_iconst (v := 1) hx hb dX6_bracket_219 (by decide) ?_
                    refine lv_goto (tgt := 224) hx hb dX6_bracket_220 (by decide) ?_
                    exact kM _ (by try rw [if_pos h65]; try rw [if_pos h66])
                  ·
                    refine lv_iload_n hx hb dX6_bracket_213 rfl (lv_at hl 2 rfl) ?_
                    refine lv_bipush (v := 13) hx hb dX6_bracket_214 (by decide) ?_
                    refine lv_icmp_ne (tgt := 223) hx hb dX6_bracket_216 (by decide) (fun h67 => ?_) (fun h67 => ?_)
                    ·
                      refine lv_iconst (v := 0) hx hb dX6_bracket_223 (by decide) ?_
                      exact kM _ (by try rw [if_pos h65]; try rw [if_neg h66]; try rw [if_neg h67])
                    ·
                      refine lv_iconst (v := 1) hx hb dX6_bracket_219 (by decide) ?_
                      refine lv_goto (tgt := 224) hx hb dX6_bracket_220 (by decide) ?_
                      exact kM _ (by try rw [if_pos h65]; try rw [if_neg h66]; try rw [if_pos h67])
              refine lv_istore hx hb dX6_bracket_224 hl (by decide) rfl (fun ls hl => ?_)
              have hl : lv_has ls 6 [(4, .int (if (R55.2.1 22 (R55.1 16).toNatClampNeg) = 0 then (if (if r19 = 58 then 9 else (if r19 = 61 then 10 else (if r19 = 33 then 11 else (if r19 = 62 then 14 else (if (if r19 = 60 then 1 else 0 : Int32) = 0 then (if (if r19 = 60 then 1 else 0 : Int32) = 0 then (-1) else (if r21 = 33 then 13 else (-1) : Int32) : Int32) else (if r21 = 61 then 12 else (if (if r19 = 60 then 1 else 0 : Int32) = 0 then (-1) else (if r21 = 33 then 13 else (-1) : Int32) : Int32) : Int32) : Int32) : Int32) : Int32) : Int32) : Int32) = 12 then 1 else (if (if r19 = 58 then 9 else (if r19 = 61 then 10 else (if r19 = 33 then 11 else (if r19 = 62 then 14 else (if (if r19 = 60 then 1 else 0 : Int32) = 0 then (if (if r19 = 60 then 1 else 0 : Int32) = 0 then (-1) else (if r21 = 33 then 13 else (-1) : Int32) : Int32) else (if r21 = 61 then 12 else (if (if r19 = 60 then 1 else 0 : Int32) = 0 then (-1) else (if r21 = 33 then 13 else (-1) : Int32) : Int32) : Int32) : Int32) : Int32) : Int32) : Int32) : Int32) = 13 then 1 else 0 : Int32) : Int32) else 1 : Int32)), (3, .int r56), (2, .int (if (if r19 = 60 then 1 else 0 : Int32) = 0 then 3 else 4 : Int32)), (1, .int (if r19 = 58 then 9 else (if r19 = 61 then 10 else (if r19 = 33 then 11 else (if r19 = 62 then 14 else (if (if r19 = 60 then 1 else 0 : Int32) = 0 then (if (if r19 = 60 then 1 else 0 : Int32) = 0 then (-1) else (if r21 = 33 then 13 else (-1) : Int32) : Int32) else (if r21 = 61 then 12 else (if (if r19 = 60 then 1 else 0 : Int32) = 0 then (-1) else (if r21 = 33 then 13 else (-1) : Int32) : Int32) : Int32) : Int32) : Int32) : Int32) : Int32) : Int32)), (5, .int (if r19 = 60 then 1 else 0 : Int32)), (0, .ref h)] := hl
              refine lv_aload_n hx hb dX6_bracket_226 rfl (lv_at hl 5 rfl) ?_
              refine lv_dup hx hb dX6_bracket_227 rfl ?_
              refine va_get (D := G.1) (ci := 6) (C := RX6) (T := TX6) (N := 48) hx hb hts inX6 hown hK.1 hP 0 mW_0 rfl 17 (by decide) (hts _ w_863) (fun _ h9 => h9) mF_17 dX6_bracket_228 ?_
              refine tp_i (R55.1 17) rfl ?_
              refine lv_iload_n hx hb dX6_bracket_231 rfl (lv_at hl 2 rfl) ?_
              refine lv_iadd hx hb dX6_bracket_232 ?_
              refine va_put (D := G.1) (ci := 6) (v := .int ((R55.1 17) + (if (if r19 = 60 then 1 else 0 : Int32) = 0 then 3 else 4 : Int32))) (ty := .int) (C := RX6) (T := TX6) (N := 48) hx hb hts inX6 tyX6 tyX6_ok nmX6 hown hK.1 hP hD hS 0 mW_0 rfl 17 (by decide) (hts _ w_863) (fun _ h9 => h9) rfl (by decide +kernel) rfl rfl mF_l17 dX6_bracket_233 (fun H locs hP hD hS => ?_)
              rw [mW_f17] at hP hD
              refine lv_aload_n hx hb dX6_bracket_236 rfl (lv_at hl 5 rfl) ?_
              refine lv_dup hx hb dX6_bracket_237 rfl ?_
              refine va_get (D := G.1) (ci := 6) (C := RX6) (T := TX6) (N := 48) hx hb hts inX6 hown hK.1 hP 0 mW_0 rfl 16 (by decide) (hts _ w_862) (fun _ h9 => h9) mF_16 dX6_bracket_238 ?_
              refine tp_i (R55.1 16) rfl ?_
              refine lv_iconst (v := 1) hx hb dX6_bracket_241 (by decide) ?_
              refine lv_iadd hx hb dX6_bracket_242 ?_
              refine va_put (D := G.1) (ci := 6) (v := .int ((R55.1 16) + 1)) (ty := .int) (C := RX6) (T := TX6) (N := 48) hx hb hts inX6 tyX6 tyX6_ok nmX6 hown hK.1 hP hD hS 0 mW_0 rfl 16 (by decide) (hts _ w_862) (fun _ h9 => h9) rfl (by decide +kernel) rfl rfl mF_l16 dX6_bracket_243 (fun H locs hP hD hS => ?_)
              rw [mW_f16] at hP hD
              refine lv_aload_n hx hb dX6_bracket_246 rfl (lv_at hl 5 rfl) ?_
              refine lv_iload_n hx hb dX6_bracket_247 rfl (lv_at hl 1 rfl) ?_
              refine lv_iload hx hb dX6_bracket_248 (lv_at hl 0 rfl) ?_
              obtain ⟨R68, hg, hE⟩ := hE
              refine kA_v (va_runV (As := [.int r56, .int (if (R55.2.1 22 (R55.1 16).toNatClampNeg) = 0 then (if (if r19 = 58 then 9 else (if r19 = 61 then 10 else (if r19 = 33 then 11 else (if r19 = 62 then 14 else (if (if r19 = 60 then 1 else 0 : Int32) = 0 then (if (if r19 = 60 then 1 else 0 : Int32) = 0 then (-1) else (if r21 = 33 then 13 else (-1) : Int32) : Int32) else (if r21 = 61 then 12 else (if (if r19 = 60 then 1 else 0 : Int32) = 0 then (-1) else (if r21 = 33 then 13 else (-1) : Int32) : Int32) : Int32) : Int32) : Int32) : Int32) : Int32) : Int32) = 12 then 1 else (if (if r19 = 58 then 9 else (if r19 = 61 then 10 else (if r19 = 33 then 11 else (if r19 = 62 then 14 else (if (if r19 = 60 then 1 else 0 : Int32) = 0 then (if (if r19 = 60 then 1 else 0 : Int32) = 0 then (-1) else (if r21 = 33 then 13 else (-1) : Int32) : Int32) else (if r21 = 61 then 12 else (if (if r19 = 60 then 1 else 0 : Int32) = 0 then (-1) else (if r21 = 33 then 13 else (-1) : Int32) : Int32) : Int32) : Int32) : Int32) : Int32) : Int32) : Int32) = 13 then 1 else 0 : Int32) : Int32) else 1 : Int32)]) (rest := []) F.1 (e_newChoice l G h q (mf (mf (ma (mf R55 6 ((R55.1 6) + 1)) 9 r56.toNatClampNeg ((R55.1 6) + 1)) 17 ((R55.1 17) + (if (if r19 = 60 then 1 else 0 : Int32) = 0 then 3 else 4 : Int32))) 16 ((R55.1 16) + 1)) r56 (if (R55.2.1 22 (R55.1 16).toNatClampNeg) = 0 then (if (if r19 = 58 then 9 else (if r19 = 61 then 10 else (if r19 = 33 then 11 else (if r19 = 62 then 14 else (if (if r19 = 60 then 1 else 0 : Int32) = 0 then (if (if r19 = 60 then 1 else 0 : Int32) = 0 then (-1) else (if r21 = 33 then 13 else (-1) : Int32) : Int32) else (if r21 = 61 then 12 else (if (if r19 = 60 then 1 else 0 : Int32) = 0 then (-1) else (if r21 = 33 then 13 else (-1) : Int32) : Int32) : Int32) : Int32) : Int32) : Int32) : Int32) : Int32) = 12 then 1 else (if (if r19 = 58 then 9 else (if r19 = 61 then 10 else (if r19 = 33 then 11 else (if r19 = 62 then 14 else (if (if r19 = 60 then 1 else 0 : Int32) = 0 then (if (if r19 = 60 then 1 else 0 : Int32) = 0 then (-1) else (if r21 = 33 then 13 else (-1) : Int32) : Int32) else (if r21 = 61 then 12 else (if (if r19 = 60 then 1 else 0 : Int32) = 0 then (-1) else (if r21 = 33 then 13 else (-1) : Int32) : Int32) : Int32) : Int32) : Int32) : Int32) : Int32) : Int32) = 13 then 1 else 0 : Int32) : Int32) else 1 : Int32) R68 0 hg _) (cwV 2 hts (aw_V w_1019 w_1021 ws_X6_newChoice w_6 w_1022) rfl rfl rfl (by decide +kernel) ⟨by decide, by decide⟩) ⟨cS_blind, va_recv (q := (RX6, TX6, 48)) (ci := 6) (q0 := 0) hK.1 hP rfl mW_0, cS_pre hP hD hK⟩ rfl rfl hl.1 rfl (lv_room (Nat.le_of_ble_eq_true rfl)) dX6_bracket_250 ⟨Nat.le_refl _, Nat.le_refl _⟩) hD hS hA (fun u0 H locs hp hP hD hS => ?_)
              refine lv_iconst (v := 1) hx hb dX6_bracket_253 (by decide) ?_
              obtain ⟨rfl, rfl⟩ := hE
              exact en_i F hS _ () (by rfl) rfl hP hD (Nat.le_refl _) (Nat.le_refl _) dX6_bracket_254
          ·
            rw [if_pos h54] at hE
            refine lv_iconst (v := 0) hx hb dX6_bracket_161 (by decide) ?_
            obtain ⟨rfl, rfl⟩ := hE
            exact en_i F hS _ () (by rfl) rfl hP hD (Nat.le_refl _) (Nat.le_refl _) dX6_bracket_162
  ·
    rw [if_pos h1] at hE
    refine lv_iconst (v := 0) hx hb dX6_bracket_8 (by decide) ?_
    obtain ⟨rfl, rfl⟩ := hE
    exact en_i F hS _ () (by rfl) rfl hP hD (Nat.le_refl _) (Nat.le_refl _) dX6_bracket_9

theorem dX6_bounds_0 : decode cX6_bounds 0 = .ok (.aload_n 0, 1) := by decide +kernel
theorem dX6_bounds_1 : decode cX6_bounds 1 = .ok (.iconst 0, 1) := by decide +kernel
theorem dX6_bounds_2 : decode cX6_bounds 2 = .ok (.invokevirtual 147, 3) := by decide +kernel
theorem dX6_bounds_5 : decode cX6_bounds 5 = .ok (.invokestatic 193, 3) := by decide +kernel
theorem dX6_bounds_8 : decode cX6_bounds 8 = .ok (.ifCond .ne 5, 3) := by decide +kernel
theorem dX6_bounds_11 : decode cX6_bounds 11 = .ok (.iconst 0, 1) := by decide +kernel
theorem dX6_bounds_12 : decode cX6_bounds 12 = .ok (.ireturn, 1) := by decide +kernel
theorem dX6_bounds_13 : decode cX6_bounds 13 = .ok (.aload_n 0, 1) := by decide +kernel
theorem dX6_bounds_14 : decode cX6_bounds 14 = .ok (.getfield 19, 3) := by decide +kernel
theorem dX6_bounds_17 : decode cX6_bounds 17 = .ok (.iload_n 1, 1) := by decide +kernel
theorem dX6_bounds_18 : decode cX6_bounds 18 = .ok (.aload_n 0, 1) := by decide +kernel
theorem dX6_bounds_19 : decode cX6_bounds 19 = .ok (.iconst 0, 1) := by decide +kernel
theorem dX6_bounds_20 : decode cX6_bounds 20 = .ok (.invokevirtual 147, 3) := by decide +kernel
theorem dX6_bounds_23 : decode cX6_bounds 23 = .ok (.bipush 48, 2) := by decide +kernel
theorem dX6_bounds_25 : decode cX6_bounds 25 = .ok (.isub, 1) := by decide +kernel
theorem dX6_bounds_26 : decode cX6_bounds 26 = .ok (.iastore, 1) := by decide +kernel
theorem dX6_bounds_27 : decode cX6_bounds 27 = .ok (.aload_n 0, 1) := by decide +kernel
theorem dX6_bounds_28 : decode cX6_bounds 28 = .ok (.getfield 22, 3) := by decide +kernel
theorem dX6_bounds_31 : decode cX6_bounds 31 = .ok (.iload_n 1, 1) := by decide +kernel
theorem dX6_bounds_32 : decode cX6_bounds 32 = .ok (.aload_n 0, 1) := by decide +kernel
theorem dX6_bounds_33 : decode cX6_bounds 33 = .ok (.getfield 19, 3) := by decide +kernel
theorem dX6_bounds_36 : decode cX6_bounds 36 = .ok (.iload_n 1, 1) := by decide +kernel
theorem dX6_bounds_37 : decode cX6_bounds 37 = .ok (.iaload, 1) := by decide +kernel
theorem dX6_bounds_38 : decode cX6_bounds 38 = .ok (.iastore, 1) := by decide +kernel
theorem dX6_bounds_39 : decode cX6_bounds 39 = .ok (.aload_n 0, 1) := by decide +kernel
theorem dX6_bounds_40 : decode cX6_bounds 40 = .ok (.dup, 1) := by decide +kernel
theorem dX6_bounds_41 : decode cX6_bounds 41 = .ok (.getfield 114, 3) := by decide +kernel
theorem dX6_bounds_44 : decode cX6_bounds 44 = .ok (.iconst 1, 1) := by decide +kernel
theorem dX6_bounds_45 : decode cX6_bounds 45 = .ok (.iadd, 1) := by decide +kernel
theorem dX6_bounds_46 : decode cX6_bounds 46 = .ok (.putfield 114, 3) := by decide +kernel
theorem dX6_bounds_49 : decode cX6_bounds 49 = .ok (.aload_n 0, 1) := by decide +kernel
theorem dX6_bounds_50 : decode cX6_bounds 50 = .ok (.iconst 0, 1) := by decide +kernel
theorem dX6_bounds_51 : decode cX6_bounds 51 = .ok (.invokevirtual 147, 3) := by decide +kernel
theorem dX6_bounds_54 : decode cX6_bounds 54 = .ok (.bipush 44, 2) := by decide +kernel
theorem dX6_bounds_56 : decode cX6_bounds 56 = .ok (.if_icmp .ne 66, 3) := by decide +kernel
theorem dX6_bounds_59 : decode cX6_bounds 59 = .ok (.aload_n 0, 1) := by decide +kernel
theorem dX6_bounds_60 : decode cX6_bounds 60 = .ok (.dup, 1) := by decide +kernel
theorem dX6_bounds_61 : decode cX6_bounds 61 = .ok (.getfield 114, 3) := by decide +kernel
theorem dX6_bounds_64 : decode cX6_bounds 64 = .ok (.iconst 1, 1) := by decide +kernel
theorem dX6_bounds_65 : decode cX6_bounds 65 = .ok (.iadd, 1) := by decide +kernel
theorem dX6_bounds_66 : decode cX6_bounds 66 = .ok (.putfield 114, 3) := by decide +kernel
theorem dX6_bounds_69 : decode cX6_bounds 69 = .ok (.aload_n 0, 1) := by decide +kernel
theorem dX6_bounds_70 : decode cX6_bounds 70 = .ok (.getfield 22, 3) := by decide +kernel
theorem dX6_bounds_73 : decode cX6_bounds 73 = .ok (.iload_n 1, 1) := by decide +kernel
theorem dX6_bounds_74 : decode cX6_bounds 74 = .ok (.aload_n 0, 1) := by decide +kernel
theorem dX6_bounds_75 : decode cX6_bounds 75 = .ok (.iconst 0, 1) := by decide +kernel
theorem dX6_bounds_76 : decode cX6_bounds 76 = .ok (.invokevirtual 147, 3) := by decide +kernel
theorem dX6_bounds_79 : decode cX6_bounds 79 = .ok (.invokestatic 193, 3) := by decide +kernel
theorem dX6_bounds_82 : decode cX6_bounds 82 = .ok (.ifCond .eq 14, 3) := by decide +kernel
theorem dX6_bounds_85 : decode cX6_bounds 85 = .ok (.aload_n 0, 1) := by decide +kernel
theorem dX6_bounds_86 : decode cX6_bounds 86 = .ok (.iconst 0, 1) := by decide +kernel
theorem dX6_bounds_87 : decode cX6_bounds 87 = .ok (.invokevirtual 147, 3) := by decide +kernel
theorem dX6_bounds_90 : decode cX6_bounds 90 = .ok (.bipush 48, 2) := by decide +kernel
theorem dX6_bounds_92 : decode cX6_bounds 92 = .ok (.isub, 1) := by decide +kernel
theorem dX6_bounds_93 : decode cX6_bounds 93 = .ok (.goto 4, 3) := by decide +kernel
theorem dX6_bounds_96 : decode cX6_bounds 96 = .ok (.iconst (-1), 1) := by decide +kernel
theorem dX6_bounds_97 : decode cX6_bounds 97 = .ok (.iastore, 1) := by decide +kernel
theorem dX6_bounds_98 : decode cX6_bounds 98 = .ok (.aload_n 0, 1) := by decide +kernel
theorem dX6_bounds_99 : decode cX6_bounds 99 = .ok (.dup, 1) := by decide +kernel
theorem dX6_bounds_100 : decode cX6_bounds 100 = .ok (.getfield 114, 3) := by decide +kernel
theorem dX6_bounds_103 : decode cX6_bounds 103 = .ok (.aload_n 0, 1) := by decide +kernel
theorem dX6_bounds_104 : decode cX6_bounds 104 = .ok (.getfield 22, 3) := by decide +kernel
theorem dX6_bounds_107 : decode cX6_bounds 107 = .ok (.iload_n 1, 1) := by decide +kernel
theorem dX6_bounds_108 : decode cX6_bounds 108 = .ok (.iaload, 1) := by decide +kernel
theorem dX6_bounds_109 : decode cX6_bounds 109 = .ok (.iconst (-1), 1) := by decide +kernel
theorem dX6_bounds_110 : decode cX6_bounds 110 = .ok (.if_icmp .ne 7, 3) := by decide +kernel
theorem dX6_bounds_113 : decode cX6_bounds 113 = .ok (.iconst 0, 1) := by decide +kernel
theorem dX6_bounds_114 : decode cX6_bounds 114 = .ok (.goto 4, 3) := by decide +kernel
theorem dX6_bounds_117 : decode cX6_bounds 117 = .ok (.iconst 1, 1) := by decide +kernel
theorem dX6_bounds_118 : decode cX6_bounds 118 = .ok (.iadd, 1) := by decide +kernel
theorem dX6_bounds_119 : decode cX6_bounds 119 = .ok (.putfield 114, 3) := by decide +kernel
theorem dX6_bounds_122 : decode cX6_bounds 122 = .ok (.aload_n 0, 1) := by decide +kernel
theorem dX6_bounds_123 : decode cX6_bounds 123 = .ok (.dup, 1) := by decide +kernel
theorem dX6_bounds_124 : decode cX6_bounds 124 = .ok (.getfield 114, 3) := by decide +kernel
theorem dX6_bounds_127 : decode cX6_bounds 127 = .ok (.iconst 1, 1) := by decide +kernel
theorem dX6_bounds_128 : decode cX6_bounds 128 = .ok (.iadd, 1) := by decide +kernel
theorem dX6_bounds_129 : decode cX6_bounds 129 = .ok (.putfield 114, 3) := by decide +kernel
theorem dX6_bounds_132 : decode cX6_bounds 132 = .ok (.aload_n 0, 1) := by decide +kernel
theorem dX6_bounds_133 : decode cX6_bounds 133 = .ok (.iconst (-1), 1) := by decide +kernel
theorem dX6_bounds_134 : decode cX6_bounds 134 = .ok (.invokevirtual 147, 3) := by decide +kernel
theorem dX6_bounds_137 : decode cX6_bounds 137 = .ok (.bipush 125, 2) := by decide +kernel
theorem dX6_bounds_139 : decode cX6_bounds 139 = .ok (.if_icmp .ne 32, 3) := by decide +kernel
theorem dX6_bounds_142 : decode cX6_bounds 142 = .ok (.aload_n 0, 1) := by decide +kernel
theorem dX6_bounds_143 : decode cX6_bounds 143 = .ok (.getfield 22, 3) := by decide +kernel
theorem dX6_bounds_146 : decode cX6_bounds 146 = .ok (.iload_n 1, 1) := by decide +kernel
theorem dX6_bounds_147 : decode cX6_bounds 147 = .ok (.iaload, 1) := by decide +kernel
theorem dX6_bounds_148 : decode cX6_bounds 148 = .ok (.iconst (-1), 1) := by decide +kernel
theorem dX6_bounds_149 : decode cX6_bounds 149 = .ok (.if_icmp .eq 18, 3) := by decide +kernel
theorem dX6_bounds_152 : decode cX6_bounds 152 = .ok (.aload_n 0, 1) := by decide +kernel
theorem dX6_bounds_153 : decode cX6_bounds 153 = .ok (.getfield 22, 3) := by decide +kernel
theorem dX6_bounds_156 : decode cX6_bounds 156 = .ok (.iload_n 1, 1) := by decide +kernel
theorem dX6_bounds_157 : decode cX6_bounds 157 = .ok (.iaload, 1) := by decide +kernel
theorem dX6_bounds_158 : decode cX6_bounds 158 = .ok (.aload_n 0, 1) := by decide +kernel
theorem dX6_bounds_159 : decode cX6_bounds 159 = .ok (.getfield 19, 3) := by decide +kernel
theorem dX6_bounds_162 : decode cX6_bounds 162 = .ok (.iload_n 1, 1) := by decide +kernel
theorem dX6_bounds_163 : decode cX6_bounds 163 = .ok (.iaload, 1) := by decide +kernel
theorem dX6_bounds_164 : decode cX6_bounds 164 = .ok (.if_icmp .lt 7, 3) := by decide +kernel
theorem dX6_bounds_167 : decode cX6_bounds 167 = .ok (.iconst 1, 1) := by decide +kernel
theorem dX6_bounds_168 : decode cX6_bounds 168 = .ok (.goto 4, 3) := by decide +kernel
theorem dX6_bounds_171 : decode cX6_bounds 171 = .ok (.iconst 0, 1) := by decide +kernel
theorem dX6_bounds_172 : decode cX6_bounds 172 = .ok (.ireturn, 1) := by decide +kernel
def E_bounds (R : RS) (a1 : Int32) (R' : RS) (r : Int32) : Prop := ∃ (R1 : RS) (r2 : Int32), E_peek R 0 R1 r2 ∧ (∃ r3 : Int32, E_isFour r2 r3 ∧ (if r3 = 0 then (R' = R1 ∧ r = 0) else (∃ (R5 : RS) (r6 : Int32), E_peek R1 0 R5 r6 ∧ (vp_in a1 96 ∧ (vp_in a1 96 ∧ (vp_in a1 96 ∧ (∃ (R7 : RS) (r8 : Int32), E_peek (mf (ma (ma R5 9 a1.toNatClampNeg (r6 - 48)) 10 a1.toNatClampNeg ((ma R5 9 a1.toNatClampNeg (r6 - 48)).2.1 9 a1.toNatClampNeg)) 17 ((R5.1 17) + 1)) 0 R7 r8 ∧ (if r8 = 44 then (∃ (R16 : RS) (r17 : Int32), E_peek (mf R7 17 ((R7.1 17) + 1)) 0 R16 r17 ∧ (∃ r18 : Int32, E_isFour r17 r18 ∧ (if r18 = 0 then (vp_in a1 96 ∧ (vp_in a1 96 ∧ (∃ (R22 : RS) (r23 : Int32), E_peek (mf (mf (ma R16 10 a1.toNatClampNeg (-1)) 17 ((R16.1 17) + (if ((ma R16 10 a1.toNatClampNeg (-1)).2.1 10 a1.toNatClampNeg) = (-1) then 0 else 1 : Int32))) 17 (((R16.1 17) + (if ((ma R16 10 a1.toNatClampNeg (-1)).2.1 10 a1.toNatClampNeg) = (-1) then 0 else 1 : Int32)) + 1)) (-1) R22 r23 ∧ (if r23 = 125 then (vp_in a1 96 ∧ (if (R22.2.1 10 a1.toNatClampNeg) = (-1) then (R' = R22 ∧ r = 1) else (vp_in a1 96 ∧ (vp_in a1 96 ∧ (narrow .boolean (.int (if (R22.2.1 10 a1.toNatClampNeg) < (R22.2.1 9 a1.toNatClampNeg) then 0 else 1 : Int32)) = .int (if (R22.2.1 10 a1.toNatClampNeg) < (R22.2.1 9 a1.toNatClampNeg) then 0 else 1 : Int32) ∧ R' = R22 ∧ r = (if (R22.2.1 10 a1.toNatClampNeg) < (R22.2.1 9 a1.toNatClampNeg) then 0 else 1 : Int32)))))) else (R' = R22 ∧ r = 0))))) else (∃ (R28 : RS) (r29 : Int32), E_peek R16 0 R28 r29 ∧ (vp_in a1 96 ∧ (vp_in a1 96 ∧ (∃ (R32 : RS) (r33 : Int32), E_peek (mf (mf (ma R28 10 a1.toNatClampNeg (r29 - 48)) 17 ((R28.1 17) + (if ((ma R28 10 a1.toNatClampNeg (r29 - 48)).2.1 10 a1.toNatClampNeg) = (-1) then 0 else 1 : Int32))) 17 (((R28.1 17) + (if ((ma R28 10 a1.toNatClampNeg (r29 - 48)).2.1 10 a1.toNatClampNeg) = (-1) then 0 else 1 : Int32)) + 1)) (-1) R32 r33 ∧ (if r33 = 125 then (vp_in a1 96 ∧ (if (R32.2.1 10 a1.toNatClampNeg) = (-1) then (R' = R32 ∧ r = 1) else (vp_in a1 96 ∧ (vp_in a1 96 ∧ (narrow .boolean (.int (if (R32.2.1 10 a1.toNatClampNeg) < (R32.2.1 9 a1.toNatClampNeg) then 0 else 1 : Int32)) = .int (if (R32.2.1 10 a1.toNatClampNeg) < (R32.2.1 9 a1.toNatClampNeg) then 0 else 1 : Int32) ∧ R' = R32 ∧ r = (if (R32.2.1 10 a1.toNatClampNeg) < (R32.2.1 9 a1.toNatClampNeg) then 0 else 1 : Int32)))))) else (R' = R32 ∧ r = 0))))))))) else (∃ (R10 : RS) (r11 : Int32), E_peek (mf R7 17 ((R7.1 17) + 1)) (-1) R10 r11 ∧ (if r11 = 125 then (vp_in a1 96 ∧ (if (R10.2.1 10 a1.toNatClampNeg) = (-1) then (R' = R10 ∧ r = 1) else (vp_in a1 96 ∧ (vp_in a1 96 ∧ (narrow .boolean (.int (if (R10.2.1 10 a1.toNatClampNeg) < (R10.2.1 9 a1.toNatClampNeg) then 0 else 1 : Int32)) = .int (if (R10.2.1 10 a1.toNatClampNeg) < (R10.2.1 9 a1.toNatClampNeg) then 0 else 1 : Int32) ∧ R' = R10 ∧ r = (if (R10.2.1 10 a1.toNatClampNeg) < (R10.2.1 9 a1.toNatClampNeg) then 0 else 1 : Int32)))))) else (R' = R10 ∧ r = 0)))))))))))
set_option maxHeartbeats 4000000 in
set_option maxRecDepth 100000 in
theorem e_bounds (l : Launch) (G : PG) (h : Nat) (q : Nat → Nat) (R : RS) (a1 : Int32) (R' : RS) (r : Int32) (hE : E_bounds R a1 R' r) : Ci l yX6_bounds (Cond.code yX6_bounds cX6_bounds 2 (some .boolean) :: aW) { frames := 1, cells := 0, slots := 0, locals := 21 } G (mW G h q R) [.ref h, .int a1] (fun (r9 : Int32) (_ : Unit) => r9 = r) (fun (_ : Unit) => mW G h q R') 0 0 := by
  refine ofB (y := yX6_bounds) (G := G) (cc := cX6_bounds) (maxL := 2) (ret := (some .boolean)) (Qc := fun A => va_Qi (fun (r9 : Int32) (_ : Unit) => r9 = r) (oB G A (fun (_ : Unit) => mW G h q R')) A) (by decide) rfl ?_
  intro p e s m below meth c A F hK hA hP hD
  have hS : va_S A s.heap s.heap [] := va_S.rf
  have hx := F.1.1; have hb := F.1.2.1; have hml := F.1.2.2.1; have hts := F.1.2.2.2.2
  have hown : s.vm.findClass RX6 = some m.cls := F.1.2.2.2.1
  have hl := lv_entry ([.ref h, .int a1]) (n := 2) (Nat.le_of_ble_eq_true rfl)
  rw [lg_entry_eq]
  generalize (lg_sl ([.ref h, .int a1]) ++ List.replicate (2 - (lg_sl ([.ref h, .int a1])).length) Slot.unset).toArray = ls at hl ⊢
  have hl : lv_has ls 2 [(0, .ref h), (1, .int a1)] := hl
  unfold E_bounds at hE
  refine lv_aload_n hx hb dX6_bounds_0 rfl (lv_at hl 0 rfl) ?_
  refine lv_iconst (v := 0) hx hb dX6_bounds_1 (by decide) ?_
  obtain ⟨R1, r2, hg, hE⟩ := hE
  refine kA_i (va_runV (As := [.int 0]) (rest := []) F.1 (e_peek l G h q R 0 R1 r2 hg _) (cwV 1 hts (aw_V w_1031 w_1033 ws_X6_peek w_6 w_1034) rfl rfl rfl (by decide +kernel) ⟨by decide, by decide⟩) ⟨cS_blind, va_recv (q := (RX6, TX6, 48)) (ci := 6) (q0 := 0) hK.1 hP rfl mW_0, cS_pre hP hD hK⟩ rfl rfl hl.1 rfl (lv_room (Nat.le_of_ble_eq_true rfl)) dX6_bounds_2 ⟨Nat.le_refl _, Nat.le_refl _⟩) hD hS hA (fun r9 u0 H locs hp hP hD hS => ?_)
  have hp := hp.symm; subst hp
  obtain ⟨r3, hg, hE⟩ := hE
  refine kp_i (va_runS (As := [.int r2]) (rest := []) F.1 (e_isFour l G r2 r3 hg _) (va_cwS 1 hts (aw_S w_1059 w_1060 w_6 w_1061) rfl rfl rfl (by decide +kernel) ⟨by decide, by decide⟩) ⟨cS_blind, cS_pre va_P0 (va_D0 (A := A)) hK⟩ rfl rfl hl.1 rfl (lv_room (Nat.le_of_ble_eq_true rfl)) dX6_bounds_5 ⟨Nat.le_refl _, Nat.le_refl _⟩) (fun r9 hp => ?_)
  have hp := hp.symm; subst hp
  refine lv_if_ne (tgt := 13) hx hb dX6_bounds_8 (by decide) (fun h4 => ?_) (fun h4 => ?_)
  ·
    rw [if_neg h4] at hE
    refine lv_aload_n hx hb dX6_bounds_13 rfl (lv_at hl 0 rfl) ?_
    refine va_get (D := G.1) (ci := 6) (C := RX6) (T := TX6) (N := 48) hx hb hts inX6 hown hK.1 hP 0 mW_0 rfl 9 (by decide) (hts _ w_855) (fun _ h9 => h9) mF_9 dX6_bounds_14 ?_
    refine lv_iload_n hx hb dX6_bounds_17 rfl (lv_at hl 1 rfl) ?_
    refine lv_aload_n hx hb dX6_bounds_18 rfl (lv_at hl 0 rfl) ?_
    refine lv_iconst (v := 0) hx hb dX6_bounds_19 (by decide) ?_
    obtain ⟨R5, r6, hg, hE⟩ := hE
    refine kA_i (va_runV (As := [.int 0]) (rest := [.int a1, .ref (q 9)]) F.1 (e_peek l G h q R1 0 R5 r6 hg _) (cwV 1 hts (aw_V w_1031 w_1033 ws_X6_peek w_6 w_1034) rfl rfl rfl (by decide +kernel) ⟨by decide, by decide⟩) ⟨cS_blind, va_recv (q := (RX6, TX6, 48)) (ci := 6) (q0 := 0) hK.1 hP rfl mW_0, cS_pre hP hD hK⟩ rfl rfl hl.1 rfl (lv_room (Nat.le_of_ble_eq_true rfl)) dX6_bounds_20 ⟨Nat.le_refl _, Nat.le_refl _⟩) hD hS hA (fun r9 u0 H locs hp hP hD hS => ?_)
    have hp := hp.symm; subst hp
    refine lv_bipush (v := 48) hx hb dX6_bounds_23 (by decide) ?_
    refine lv_isub hx hb dX6_bounds_25 ?_
    obtain ⟨hin, hE⟩ := hE
    refine va_iast (D := G.1) hx hb hK.1 hP hD hS 4 0 mW_g9 rfl hin dX6_bounds_26 (fun H locs hP hD hS => ?_)
    rw [mW_a9] at hP hD
    refine lv_aload_n hx hb dX6_bounds_27 rfl (lv_at hl 0 rfl) ?_
    refine va_get (D := G.1) (ci := 6) (C := RX6) (T := TX6) (N := 48) hx hb hts inX6 hown hK.1 hP 0 mW_0 rfl 10 (by decide) (hts _ w_856) (fun _ h9 => h9) mF_10 dX6_bounds_28 ?_
    refine lv_iload_n hx hb dX6_bounds_31 rfl (lv_at hl 1 rfl) ?_
    refine lv_aload_n hx hb dX6_bounds_32 rfl (lv_at hl 0 rfl) ?_
    refine va_get (D := G.1) (ci := 6) (C := RX6) (T := TX6) (N := 48) hx hb hts inX6 hown hK.1 hP 0 mW_0 rfl 9 (by decide) (hts _ w_855) (fun _ h9 => h9) mF_9 dX6_bounds_33 ?_
    refine lv_iload_n hx hb dX6_bounds_36 rfl (lv_at hl 1 rfl) ?_
    obtain ⟨hin, hE⟩ := hE
    refine va_iald (D := G.1) hx hb hK.1 hP 4 0 mW_g9 rfl hin dX6_bounds_37 ?_
    refine tp_i ((ma R5 9 a1.toNatClampNeg (r6 - 48)).2.1 9 a1.toNatClampNeg) rfl ?_
    obtain ⟨hin, hE⟩ := hE
    refine va_iast (D := G.1) hx hb hK.1 hP hD hS 5 0 mW_g10 rfl hin dX6_bounds_38 (fun H locs hP hD hS => ?_)
    rw [mW_a10] at hP hD
    refine lv_aload_n hx hb dX6_bounds_39 rfl (lv_at hl 0 rfl) ?_
    refine lv_dup hx hb dX6_bounds_40 rfl ?_
    refine va_get (D := G.1) (ci := 6) (C := RX6) (T := TX6) (N := 48) hx hb hts inX6 hown hK.1 hP 0 mW_0 rfl 17 (by decide) (hts _ w_863) (fun _ h9 => h9) mF_17 dX6_bounds_41 ?_
    refine tp_i (R5.1 17) rfl ?_
    refine lv_iconst (v := 1) hx hb dX6_bounds_44 (by decide) ?_
    refine lv_iadd hx hb dX6_bounds_45 ?_
    refine va_put (D := G.1) (ci := 6) (v := .int ((R5.1 17) + 1)) (ty := .int) (C := RX6) (T := TX6) (N := 48) hx hb hts inX6 tyX6 tyX6_ok nmX6 hown hK.1 hP hD hS 0 mW_0 rfl 17 (by decide) (hts _ w_863) (fun _ h9 => h9) rfl (by decide +kernel) rfl rfl mF_l17 dX6_bounds_46 (fun H locs hP hD hS => ?_)
    rw [mW_f17] at hP hD
    refine lv_aload_n hx hb dX6_bounds_49 rfl (lv_at hl 0 rfl) ?_
    refine lv_iconst (v := 0) hx hb dX6_bounds_50 (by decide) ?_
    obtain ⟨R7, r8, hg, hE⟩ := hE
    refine kA_i (va_runV (As := [.int 0]) (rest := []) F.1 (e_peek l G h q (mf (ma (ma R5 9 a1.toNatClampNeg (r6 - 48)) 10 a1.toNatClampNeg ((ma R5 9 a1.toNatClampNeg (r6 - 48)).2.1 9 a1.toNatClampNeg)) 17 ((R5.1 17) + 1)) 0 R7 r8 hg _) (cwV 1 hts (aw_V w_1031 w_1033 ws_X6_peek w_6 w_1034) rfl rfl rfl (by decide +kernel) ⟨by decide, by decide⟩) ⟨cS_blind, va_recv (q := (RX6, TX6, 48)) (ci := 6) (q0 := 0) hK.1 hP rfl mW_0, cS_pre hP hD hK⟩ rfl rfl hl.1 rfl (lv_room (Nat.le_of_ble_eq_true rfl)) dX6_bounds_51 ⟨Nat.le_refl _, Nat.le_refl _⟩) hD hS hA (fun r9 u0 H locs hp hP hD hS => ?_)
    have hp := hp.symm; subst hp
    refine lv_bipush (v := 44) hx hb dX6_bounds_54 (by decide) ?_
    refine lv_icmp_ne (tgt := 122) hx hb dX6_bounds_56 (by decide) (fun h9 => ?_) (fun h9 => ?_)
    ·
      rw [if_neg h9] at hE
      refine lv_aload_n hx hb dX6_bounds_122 rfl (lv_at hl 0 rfl) ?_
      refine lv_dup hx hb dX6_bounds_123 rfl ?_
      refine va_get (D := G.1) (ci := 6) (C := RX6) (T := TX6) (N := 48) hx hb hts inX6 hown hK.1 hP 0 mW_0 rfl 17 (by decide) (hts _ w_863) (fun _ h9 => h9) mF_17 dX6_bounds_124 ?_
      refine lv_iconst (v := 1) hx hb dX6_bounds_127 (by decide) ?_
      refine lv_iadd hx hb dX6_bounds_128 ?_
      refine va_put (D := G.1) (ci := 6) (v := .int ((R7.1 17) + 1)) (ty := .int) (C := RX6) (T := TX6) (N := 48) hx hb hts inX6 tyX6 tyX6_ok nmX6 hown hK.1 hP hD hS 0 mW_0 rfl 17 (by decide) (hts _ w_863) (fun _ h9 => h9) rfl (by decide +kernel) rfl rfl mF_l17 dX6_bounds_129 (fun H locs hP hD hS => ?_)
      rw [mW_f17] at hP hD
      refine lv_aload_n hx hb dX6_bounds_132 rfl (lv_at hl 0 rfl) ?_
      refine lv_iconst (v := (-1)) hx hb dX6_bounds_133 (by decide) ?_
      obtain ⟨R10, r11, hg, hE⟩ := hE
      refine kA_i (va_runV (As := [.int (-1)]) (rest := []) F.1 (e_peek l G h q (mf R7 17 ((R7.1 17) + 1)) (-1) R10 r11 hg _) (cwV 1 hts (aw_V w_1031 w_1033 ws_X6_peek w_6 w_1034) rfl rfl rfl (by decide +kernel) ⟨by decide, by decide⟩) ⟨cS_blind, va_recv (q := (RX6, TX6, 48)) (ci := 6) (q0 := 0) hK.1 hP rfl mW_0, cS_pre hP hD hK⟩ rfl rfl hl.1 rfl (lv_room (Nat.le_of_ble_eq_true rfl)) dX6_bounds_134 ⟨Nat.le_refl _, Nat.le_refl _⟩) hD hS hA (fun r9 u0 H locs hp hP hD hS => ?_)
      have hp := hp.symm; subst hp
      refine lv_bipush (v := 125) hx hb dX6_bounds_137 (by decide) ?_
      refine lv_icmp_ne (tgt := 171) hx hb dX6_bounds_139 (by decide) (fun h12 => ?_) (fun h12 => ?_)
      ·
        rw [if_neg h12] at hE
        refine lv_iconst (v := 0) hx hb dX6_bounds_171 (by decide) ?_
        obtain ⟨rfl, rfl⟩ := hE
        exact en_i F hS _ () (by rfl) rfl hP hD (Nat.le_refl _) (Nat.le_refl _) dX6_bounds_172
      ·
        rw [if_pos h12] at hE
        refine lv_aload_n hx hb dX6_bounds_142 rfl (lv_at hl 0 rfl) ?_
        refine va_get (D := G.1) (ci := 6) (C := RX6) (T := TX6) (N := 48) hx hb hts inX6 hown hK.1 hP 0 mW_0 rfl 10 (by decide) (hts _ w_856) (fun _ h9 => h9) mF_10 dX6_bounds_143 ?_
        refine lv_iload_n hx hb dX6_bounds_146 rfl (lv_at hl 1 rfl) ?_
        obtain ⟨hin, hE⟩ := hE
        refine va_iald (D := G.1) hx hb hK.1 hP 5 0 mW_g10 rfl hin dX6_bounds_147 ?_
        refine lv_iconst (v := (-1)) hx hb dX6_bounds_148 (by decide) ?_
        refine lv_icmp_eq (tgt := 167) hx hb dX6_bounds_149 (by decide) (fun h13 => ?_) (fun h13 => ?_)
        ·
          rw [if_pos h13] at hE
          refine lv_iconst (v := 1) hx hb dX6_bounds_167 (by decide) ?_
          refine lv_goto (tgt := 172) hx hb dX6_bounds_168 (by decide) ?_
          obtain ⟨rfl, rfl⟩ := hE
          exact en_i F hS _ () (by rfl) rfl hP hD (Nat.le_refl _) (Nat.le_refl _) dX6_bounds_172
        ·
          rw [if_neg h13] at hE
          refine lv_aload_n hx hb dX6_bounds_152 rfl (lv_at hl 0 rfl) ?_
          refine va_get (D := G.1) (ci := 6) (C := RX6) (T := TX6) (N := 48) hx hb hts inX6 hown hK.1 hP 0 mW_0 rfl 10 (by decide) (hts _ w_856) (fun _ h9 => h9) mF_10 dX6_bounds_153 ?_
          refine lv_iload_n hx hb dX6_bounds_156 rfl (lv_at hl 1 rfl) ?_
          obtain ⟨hin, hE⟩ := hE
          refine va_iald (D := G.1) hx hb hK.1 hP 5 0 mW_g10 rfl hin dX6_bounds_157 ?_
          refine lv_aload_n hx hb dX6_bounds_158 rfl (lv_at hl 0 rfl) ?_
          refine va_get (D := G.1) (ci := 6) (C := RX6) (T := TX6) (N := 48) hx hb hts inX6 hown hK.1 hP 0 mW_0 rfl 9 (by decide) (hts _ w_855) (fun _ h9 => h9) mF_9 dX6_bounds_159 ?_
          refine lv_iload_n hx hb dX6_bounds_162 rfl (lv_at hl 1 rfl) ?_
          obtain ⟨hin, hE⟩ := hE
          refine va_iald (D := G.1) hx hb hK.1 hP 4 0 mW_g9 rfl hin dX6_bounds_163 ?_
          refine jn_v (v := (if (R10.2.1 10 a1.toNatClampNeg) < (R10.2.1 9 a1.toNatClampNeg) then 0 else 1 : Int32)) (pcM := 172) (rest := []) (fun kM => ?_) ?_
          ·
            refine lv_icmp_lt (tgt := 171) hx hb dX6_bounds_164 (by decide) (fun h15 => ?_) (fun h15 => ?_)
            ·
              refine lv_iconst (v := 0) hx hb dX6_bounds_171 (by decide) ?_
              exact kM _ (by try rw [if_pos h15])
            ·
              refine lv_iconst (v := 1) hx hb dX6_bounds_167 (by decide) ?_
              refine lv_goto (tgt := 172) hx hb dX6_bounds_168 (by decide) ?_
              exact kM _ (by try rw [if_neg h15])
          obtain ⟨hn, rfl, rfl⟩ := hE
          exact en_i F hS _ () hn rfl hP hD (Nat.le_refl _) (Nat.le_refl _) dX6_bounds_172
    ·
      rw [if_pos h9] at hE
      refine lv_aload_n hx hb dX6_bounds_59 rfl (lv_at hl 0 rfl) ?_
      refine lv_dup hx hb dX6_bounds_60 rfl ?_
      refine va_get (D := G.1) (ci := 6) (C := RX6) (T := TX6) (N := 48) hx hb hts inX6 hown hK.1 hP 0 mW_0 rfl 17 (by decide) (hts _ w_863) (fun _ h9 => h9) mF_17 dX6_bounds_61 ?_
      refine lv_iconst (v := 1) hx hb dX6_bounds_64 (by decide) ?_
      refine lv_iadd hx hb dX6_bounds_65 ?_
      refine va_put (D := G.1) (ci := 6) (v := .int ((R7.1 17) + 1)) (ty := .int) (C := RX6) (T := TX6) (N := 48) hx hb hts inX6 tyX6 tyX6_ok nmX6 hown hK.1 hP hD hS 0 mW_0 rfl 17 (by decide) (hts _ w_863) (fun _ h9 => h9) rfl (by decide +kernel) rfl rfl mF_l17 dX6_bounds_66 (fun H locs hP hD hS => ?_)
      rw [mW_f17] at hP hD
      refine lv_aload_n hx hb dX6_bounds_69 rfl (lv_at hl 0 rfl) ?_
      refine va_get (D := G.1) (ci := 6) (C := RX6) (T := TX6) (N := 48) hx hb hts inX6 hown hK.1 hP 0 mW_0 rfl 10 (by decide) (hts _ w_856) (fun _ h9 => h9) mF_10 dX6_bounds_70 ?_
      refine lv_iload_n hx hb dX6_bounds_73 rfl (lv_at hl 1 rfl) ?_
      refine lv_aload_n hx hb dX6_bounds_74 rfl (lv_at hl 0 rfl) ?_
      refine lv_iconst (v := 0) hx hb dX6_bounds_75 (by decide) ?_
      obtain ⟨R16, r17, hg, hE⟩ := hE
      refine kA_i (va_runV (As := [.int 0]) (rest := [.int a1, .ref (q 10)]) F.1 (e_peek l G h q (mf R7 17 ((R7.1 17) + 1)) 0 R16 r17 hg _) (cwV 1 hts (aw_V w_1031 w_1033 ws_X6_peek w_6 w_1034) rfl rfl rfl (by decide +kernel) ⟨by decide, by decide⟩) ⟨cS_blind, va_recv (q := (RX6, TX6, 48)) (ci := 6) (q0 := 0) hK.1 hP rfl mW_0, cS_pre hP hD hK⟩ rfl rfl hl.1 rfl (lv_room (Nat.le_of_ble_eq_true rfl)) dX6_bounds_76 ⟨Nat.le_refl _, Nat.le_refl _⟩) hD hS hA (fun r9 u0 H locs hp hP hD hS => ?_)
      have hp := hp.symm; subst hp
      obtain ⟨r18, hg, hE⟩ := hE
      refine kp_i (va_runS (As := [.int r17]) (rest := [.int a1, .ref (q 10)]) F.1 (e_isFour l G r17 r18 hg _) (va_cwS 1 hts (aw_S w_1059 w_1060 w_6 w_1061) rfl rfl rfl (by decide +kernel) ⟨by decide, by decide⟩) ⟨cS_blind, cS_pre va_P0 (va_D0 (A := A)) hK⟩ rfl rfl hl.1 rfl (lv_room (Nat.le_of_ble_eq_true rfl)) dX6_bounds_79 ⟨Nat.le_refl _, Nat.le_refl _⟩) (fun r9 hp => ?_)
      have hp := hp.symm; subst hp
      refine lv_if_eq (tgt := 96) hx hb dX6_bounds_82 (by decide) (fun h19 => ?_) (fun h19 => ?_)
      ·
        rw [if_pos h19] at hE
        refine lv_iconst (v := (-1)) hx hb dX6_bounds_96 (by decide) ?_
        obtain ⟨hin, hE⟩ := hE
        refine va_iast (D := G.1) hx hb hK.1 hP hD hS 5 0 mW_g10 rfl hin dX6_bounds_97 (fun H locs hP hD hS => ?_)
        rw [mW_a10] at hP hD
        refine lv_aload_n hx hb dX6_bounds_98 rfl (lv_at hl 0 rfl) ?_
        refine lv_dup hx hb dX6_bounds_99 rfl ?_
        refine va_get (D := G.1) (ci := 6) (C := RX6) (T := TX6) (N := 48) hx hb hts inX6 hown hK.1 hP 0 mW_0 rfl 17 (by decide) (hts _ w_863) (fun _ h9 => h9) mF_17 dX6_bounds_100 ?_
        refine tp_i (R16.1 17) rfl ?_
        refine lv_aload_n hx hb dX6_bounds_103 rfl (lv_at hl 0 rfl) ?_
        refine va_get (D := G.1) (ci := 6) (C := RX6) (T := TX6) (N := 48) hx hb hts inX6 hown hK.1 hP 0 mW_0 rfl 10 (by decide) (hts _ w_856) (fun _ h9 => h9) mF_10 dX6_bounds_104 ?_
        refine lv_iload_n hx hb dX6_bounds_107 rfl (lv_at hl 1 rfl) ?_
        obtain ⟨hin, hE⟩ := hE
        refine va_iald (D := G.1) hx hb hK.1 hP 5 0 mW_g10 rfl hin dX6_bounds_108 ?_
        refine tp_i ((ma R16 10 a1.toNatClampNeg (-1)).2.1 10 a1.toNatClampNeg) rfl ?_
        refine lv_iconst (v := (-1)) hx hb dX6_bounds_109 (by decide) ?_
        refine jn_v (v := (if ((ma R16 10 a1.toNatClampNeg (-1)).2.1 10 a1.toNatClampNeg) = (-1) then 0 else 1 : Int32)) (pcM := 118) (rest := [.int (R16.1 17), .ref h]) (fun kM => ?_) ?_
        ·
          refine lv_icmp_ne (tgt := 117) hx hb dX6_bounds_110 (by decide) (fun h21 => ?_) (fun h21 => ?_)
          ·
            refine lv_iconst (v := 1) hx hb dX6_bounds_117 (by decide) ?_
            exact kM _ (by try rw [if_neg h21])
          ·
            refine lv_iconst (v := 0) hx hb dX6_bounds_113 (by decide) ?_
            refine lv_goto (tgt := 118) hx hb dX6_bounds_114 (by decide) ?_
            exact kM _ (by try rw [if_pos h21])
        refine lv_iadd hx hb dX6_bounds_118 ?_
        refine va_put (D := G.1) (ci := 6) (v := .int ((R16.1 17) + (if ((ma R16 10 a1.toNatClampNeg (-1)).2.1 10 a1.toNatClampNeg) = (-1) then 0 else 1 : Int32))) (ty := .int) (C := RX6) (T := TX6) (N := 48) hx hb hts inX6 tyX6 tyX6_ok nmX6 hown hK.1 hP hD hS 0 mW_0 rfl 17 (by decide) (hts _ w_863) (fun _ h9 => h9) rfl (by decide +kernel) rfl rfl mF_l17 dX6_bounds_119 (fun H locs hP hD hS => ?_)
        rw [mW_f17] at hP hD
        refine lv_aload_n hx hb dX6_bounds_122 rfl (lv_at hl 0 rfl) ?_
        refine lv_dup hx hb dX6_bounds_123 rfl ?_
        refine va_get (D := G.1) (ci := 6) (C := RX6) (T := TX6) (N := 48) hx hb hts inX6 hown hK.1 hP 0 mW_0 rfl 17 (by decide) (hts _ w_863) (fun _ h9 => h9) mF_17 dX6_bounds_124 ?_
        refine tp_i ((R16.1 17) + (if ((ma R16 10 a1.toNatClampNeg (-1)).2.1 10 a1.toNatClampNeg) = (-1) then 0 else 1 : Int32)) rfl ?_
        refine lv_iconst (v := 1) hx hb dX6_bounds_127 (by decide) ?_
        refine lv_iadd hx hb dX6_bounds_128 ?_
        refine va_put (D := G.1) (ci := 6) (v := .int (((R16.1 17) + (if ((ma R16 10 a1.toNatClampNeg (-1)).2.1 10 a1.toNatClampNeg) = (-1) then 0 else 1 : Int32)) + 1)) (ty := .int) (C := RX6) (T := TX6) (N := 48) hx hb hts inX6 tyX6 tyX6_ok nmX6 hown hK.1 hP hD hS 0 mW_0 rfl 17 (by decide) (hts _ w_863) (fun _ h9 => h9) rfl (by decide +kernel) rfl rfl mF_l17 dX6_bounds_129 (fun H locs hP hD hS => ?_)
        rw [mW_f17] at hP hD
        refine lv_aload_n hx hb dX6_bounds_132 rfl (lv_at hl 0 rfl) ?_
        refine lv_iconst (v := (-1)) hx hb dX6_bounds_133 (by decide) ?_
        obtain ⟨R22, r23, hg, hE⟩ := hE
        refine kA_i (va_runV (As := [.int (-1)]) (rest := []) F.1 (e_peek l G h q (mf (mf (ma R16 10 a1.toNatClampNeg (-1)) 17 ((R16.1 17) + (if ((ma R16 10 a1.toNatClampNeg (-1)).2.1 10 a1.toNatClampNeg) = (-1) then 0 else 1 : Int32))) 17 (((R16.1 17) + (if ((ma R16 10 a1.toNatClampNeg (-1)).2.1 10 a1.toNatClampNeg) = (-1) then 0 else 1 : Int32)) + 1)) (-1) R22 r23 hg _) (cwV 1 hts (aw_V w_1031 w_1033 ws_X6_peek w_6 w_1034) rfl rfl rfl (by decide +kernel) ⟨by decide, by decide⟩) ⟨cS_blind, va_recv (q := (RX6, TX6, 48)) (ci := 6) (q0 := 0) hK.1 hP rfl mW_0, cS_pre hP hD hK⟩ rfl rfl hl.1 rfl (lv_room (Nat.le_of_ble_eq_true rfl)) dX6_bounds_134 ⟨Nat.le_refl _, Nat.le_refl _⟩) hD hS hA (fun r9 u0 H locs hp hP hD hS => ?_)
        have hp := hp.symm; subst hp
        refine lv_bipush (v := 125) hx hb dX6_bounds_137 (by decide) ?_
        refine lv_icmp_ne (tgt := 171) hx hb dX6_bounds_139 (by decide) (fun h24 => ?_) (fun h24 => ?_)
        ·
          rw [if_neg h24] at hE
          refine lv_iconst (v := 0) hx hb dX6_bounds_171 (by decide) ?_
          obtain ⟨rfl, rfl⟩ := hE
          exact en_i F hS _ () (by rfl) rfl hP hD (Nat.le_refl _) (Nat.le_refl _) dX6_bounds_172
        ·
          rw [if_pos h24] at hE
          refine lv_aload_n hx hb dX6_bounds_142 rfl (lv_at hl 0 rfl) ?_
          refine va_get (D := G.1) (ci := 6) (C := RX6) (T := TX6) (N := 48) hx hb hts inX6 hown hK.1 hP 0 mW_0 rfl 10 (by decide) (hts _ w_856) (fun _ h9 => h9) mF_10 dX6_bounds_143 ?_
          refine lv_iload_n hx hb dX6_bounds_146 rfl (lv_at hl 1 rfl) ?_
          obtain ⟨hin, hE⟩ := hE
          refine va_iald (D := G.1) hx hb hK.1 hP 5 0 mW_g10 rfl hin dX6_bounds_147 ?_
          refine lv_iconst (v := (-1)) hx hb dX6_bounds_148 (by decide) ?_
          refine lv_icmp_eq (tgt := 167) hx hb dX6_bounds_149 (by decide) (fun h25 => ?_) (fun h25 => ?_)
          ·
            rw [if_pos h25] at hE
            refine lv_iconst (v := 1) hx hb dX6_bounds_167 (by decide) ?_
            refine lv_goto (tgt := 172) hx hb dX6_bounds_168 (by decide) ?_
            obtain ⟨rfl, rfl⟩ := hE
            exact en_i F hS _ () (by rfl) rfl hP hD (Nat.le_refl _) (Nat.le_refl _) dX6_bounds_172
          ·
            rw [if_neg h25] at hE
            refine lv_aload_n hx hb dX6_bounds_152 rfl (lv_at hl 0 rfl) ?_
            refine va_get (D := G.1) (ci := 6) (C := RX6) (T := TX6) (N := 48) hx hb hts inX6 hown hK.1 hP 0 mW_0 rfl 10 (by decide) (hts _ w_856) (fun _ h9 => h9) mF_10 dX6_bounds_153 ?_
            refine lv_iload_n hx hb dX6_bounds_156 rfl (lv_at hl 1 rfl) ?_
            obtain ⟨hin, hE⟩ := hE
            refine va_iald (D := G.1) hx hb hK.1 hP 5 0 mW_g10 rfl hin dX6_bounds_157 ?_
            refine lv_aload_n hx hb dX6_bounds_158 rfl (lv_at hl 0 rfl) ?_
            refine va_get (D := G.1) (ci := 6) (C := RX6) (T := TX6) (N := 48) hx hb hts inX6 hown hK.1 hP 0 mW_0 rfl 9 (by decide) (hts _ w_855) (fun _ h9 => h9) mF_9 dX6_bounds_159 ?_
            refine lv_iload_n hx hb dX6_bounds_162 rfl (lv_at hl 1 rfl) ?_
            obtain ⟨hin, hE⟩ := hE
            refine va_iald (D := G.1) hx hb hK.1 hP 4 0 mW_g9 rfl hin dX6_bounds_163 ?_
            refine jn_v (v := (if (R22.2.1 10 a1.toNatClampNeg) < (R22.2.1 9 a1.toNatClampNeg) then 0 else 1 : Int32)) (pcM := 172) (rest := []) (fun kM => ?_) ?_
            ·
              refine lv_icmp_lt (tgt := 171) hx hb dX6_bounds_164 (by decide) (fun h27 => ?_) (fun h27 => ?_)
              ·
                refine lv_iconst (v := 0) hx hb dX6_bounds_171 (by decide) ?_
                exact kM _ (by try rw [if_pos h27])
              ·
                refine lv_iconst (v := 1) hx hb dX6_bounds_167 (by decide) ?_
                refine lv_goto (tgt := 172) hx hb dX6_bounds_168 (by decide) ?_
                exact kM _ (by try rw [if_neg h27])
            obtain ⟨hn, rfl, rfl⟩ := hE
            exact en_i F hS _ () hn rfl hP hD (Nat.le_refl _) (Nat.le_refl _) dX6_bounds_172
      ·
        rw [if_neg h19] at hE
        refine lv_aload_n hx hb dX6_bounds_85 rfl (lv_at hl 0 rfl) ?_
        refine lv_iconst (v := 0) hx hb dX6_bounds_86 (by decide) ?_
        obtain ⟨R28, r29, hg, hE⟩ := hE
        refine kA_i (va_runV (As := [.int 0]) (rest := [.int a1, .ref (q 10)]) F.1 (e_peek l G h q R16 0 R28 r29 hg _) (cwV 1 hts (aw_V w_1031 w_1033 ws_X6_peek w_6 w_1034) rfl rfl rfl (by decide +kernel) ⟨by decide, by decide⟩) ⟨cS_blind, va_recv (q := (RX6, TX6, 48)) (ci := 6) (q0 := 0) hK.1 hP rfl mW_0, cS_pre hP hD hK⟩ rfl rfl hl.1 rfl (lv_room (Nat.le_of_ble_eq_true rfl)) dX6_bounds_87 ⟨Nat.le_refl _, Nat.le_refl _⟩) hD hS hA (fun r9 u0 H locs hp hP hD hS => ?_)
        have hp := hp.symm; subst hp
        refine lv_bipush (v := 48) hx hb dX6_bounds_90 (by decide) ?_
        refine lv_isub hx hb dX6_bounds_92 ?_
        refine lv_goto (tgt := 97) hx hb dX6_bounds_93 (by decide) ?_
        obtain ⟨hin, hE⟩ := hE
        refine va_iast (D := G.1) hx hb hK.1 hP hD hS 5 0 mW_g10 rfl hin dX6_bounds_97 (fun H locs hP hD hS => ?_)
        rw [mW_a10] at hP hD
        refine lv_aload_n hx hb dX6_bounds_98 rfl (lv_at hl 0 rfl) ?_
        refine lv_dup hx hb dX6_bounds_99 rfl ?_
        refine va_get (D := G.1) (ci := 6) (C := RX6) (T := TX6) (N := 48) hx hb hts inX6 hown hK.1 hP 0 mW_0 rfl 17 (by decide) (hts _ w_863) (fun _ h9 => h9) mF_17 dX6_bounds_100 ?_
        refine tp_i (R28.1 17) rfl ?_
        refine lv_aload_n hx hb dX6_bounds_103 rfl (lv_at hl 0 rfl) ?_
        refine va_get (D := G.1) (ci := 6) (C := RX6) (T := TX6) (N := 48) hx hb hts inX6 hown hK.1 hP 0 mW_0 rfl 10 (by decide) (hts _ w_856) (fun _ h9 => h9) mF_10 dX6_bounds_104 ?_
        refine lv_iload_n hx hb dX6_bounds_107 rfl (lv_at hl 1 rfl) ?_
        obtain ⟨hin, hE⟩ := hE
        refine va_iald (D := G.1) hx hb hK.1 hP 5 0 mW_g10 rfl hin dX6_bounds_108 ?_
        refine tp_i ((ma R28 10 a1.toNatClampNeg (r29 - 48)).2.1 10 a1.toNatClampNeg) rfl ?_
        refine lv_iconst (v := (-1)) hx hb dX6_bounds_109 (by decide) ?_
        refine jn_v (v := (if ((ma R28 10 a1.toNatClampNeg (r29 - 48)).2.1 10 a1.toNatClampNeg) = (-1) then 0 else 1 : Int32)) (pcM := 118) (rest := [.int (R28.1 17), .ref h]) (fun kM => ?_) ?_
        ·
          refine lv_icmp_ne (tgt := 117) hx hb dX6_bounds_110 (by decide) (fun h31 => ?_) (fun h31 => ?_)
          ·
            refine lv_iconst (v := 1) hx hb dX6_bounds_117 (by decide) ?_
            exact kM _ (by try rw [if_neg h31])
          ·
            refine lv_iconst (v := 0) hx hb dX6_bounds_113 (by decide) ?_
            refine lv_goto (tgt := 118) hx hb dX6_bounds_114 (by decide) ?_
            exact kM _ (by try rw [if_pos h31])
        refine lv_iadd hx hb dX6_bounds_118 ?_
        refine va_put (D := G.1) (ci := 6) (v := .int ((R28.1 17) + (if ((ma R28 10 a1.toNatClampNeg (r29 - 48)).2.1 10 a1.toNatClampNeg) = (-1) then 0 else 1 : Int32))) (ty := .int) (C := RX6) (T := TX6) (N := 48) hx hb hts inX6 tyX6 tyX6_ok nmX6 hown hK.1 hP hD hS 0 mW_0 rfl 17 (by decide) (hts _ w_863) (fun _ h9 => h9) rfl (by decide +kernel) rfl rfl mF_l17 dX6_bounds_119 (fun H locs hP hD hS => ?_)
        rw [mW_f17] at hP hD
        refine lv_aload_n hx hb dX6_bounds_122 rfl (lv_at hl 0 rfl) ?_
        refine lv_dup hx hb dX6_bounds_123 rfl ?_
        refine va_get (D := G.1) (ci := 6) (C := RX6) (T := TX6) (N := 48) hx hb hts inX6 hown hK.1 hP 0 mW_0 rfl 17 (by decide) (hts _ w_863) (fun _ h9 => h9) mF_17 dX6_bounds_124 ?_
        refine tp_i ((R28.1 17) + (if ((ma R28 10 a1.toNatClampNeg (r29 - 48)).2.1 10 a1.toNatClampNeg) = (-1) then 0 else 1 : Int32)) rfl ?_
        refine lv_iconst (v := 1) hx hb dX6_bounds_127 (by decide) ?_
        refine lv_iadd hx hb dX6_bounds_128 ?_
        refine va_put (D := G.1) (ci := 6) (v := .int (((R28.1 17) + (if ((ma R28 10 a1.toNatClampNeg (r29 - 48)).2.1 10 a1.toNatClampNeg) = (-1) then 0 else 1 : Int32)) + 1)) (ty := .int) (C := RX6) (T := TX6) (N := 48) hx hb hts inX6 tyX6 tyX6_ok nmX6 hown hK.1 hP hD hS 0 mW_0 rfl 17 (by decide) (hts _ w_863) (fun _ h9 => h9) rfl (by decide +kernel) rfl rfl mF_l17 dX6_bounds_129 (fun H locs hP hD hS => ?_)
        rw [mW_f17] at hP hD
        refine lv_aload_n hx hb dX6_bounds_132 rfl (lv_at hl 0 rfl) ?_
        refine lv_iconst (v := (-1)) hx hb dX6_bounds_133 (by decide) ?_
        obtain ⟨R32, r33, hg, hE⟩ := hE
        refine kA_i (va_runV (As := [.int (-1)]) (rest := []) F.1 (e_peek l G h q (mf (mf (ma R28 10 a1.toNatClampNeg (r29 - 48)) 17 ((R28.1 17) + (if ((ma R28 10 a1.toNatClampNeg (r29 - 48)).2.1 10 a1.toNatClampNeg) = (-1) then 0 else 1 : Int32))) 17 (((R28.1 17) + (if ((ma R28 10 a1.toNatClampNeg (r29 - 48)).2.1 10 a1.toNatClampNeg) = (-1) then 0 else 1 : Int32)) + 1)) (-1) R32 r33 hg _) (cwV 1 hts (aw_V w_1031 w_1033 ws_X6_peek w_6 w_1034) rfl rfl rfl (by decide +kernel) ⟨by decide, by decide⟩) ⟨cS_blind, va_recv (q := (RX6, TX6, 48)) (ci := 6) (q0 := 0) hK.1 hP rfl mW_0, cS_pre hP hD hK⟩ rfl rfl hl.1 rfl (lv_room (Nat.le_of_ble_eq_true rfl)) dX6_bounds_134 ⟨Nat.le_refl _, Nat.le_refl _⟩) hD hS hA (fun r9 u0 H locs hp hP hD hS => ?_)
        have hp := hp.symm; subst hp
        refine lv_bipush (v := 125) hx hb dX6_bounds_137 (by decide) ?_
        refine lv_icmp_ne (tgt := 171) hx hb dX6_bounds_139 (by decide) (fun h34 => ?_) (fun h34 => ?_)
        ·
          rw [if_neg h34] at hE
          refine lv_iconst (v := 0) hx hb dX6_bounds_171 (by decide) ?_
          obtain ⟨rfl, rfl⟩ := hE
          exact en_i F hS _ () (by rfl) rfl hP hD (Nat.le_refl _) (Nat.le_refl _) dX6_bounds_172
        ·
          rw [if_pos h34] at hE
          refine lv_aload_n hx hb dX6_bounds_142 rfl (lv_at hl 0 rfl) ?_
          refine va_get (D := G.1) (ci := 6) (C := RX6) (T := TX6) (N := 48) hx hb hts inX6 hown hK.1 hP 0 mW_0 rfl 10 (by decide) (hts _ w_856) (fun _ h9 => h9) mF_10 dX6_bounds_143 ?_
          refine lv_iload_n hx hb dX6_bounds_146 rfl (lv_at hl 1 rfl) ?_
          obtain ⟨hin, hE⟩ := hE
          refine va_iald (D := G.1) hx hb hK.1 hP 5 0 mW_g10 rfl hin dX6_bounds_147 ?_
          refine lv_iconst (v := (-1)) hx hb dX6_bounds_148 (by decide) ?_
          refine lv_icmp_eq (tgt := 167) hx hb dX6_bounds_149 (by decide) (fun h35 => ?_) (fun h35 => ?_)
          ·
            rw [if_pos h35] at hE
            refine lv_iconst (v := 1) hx hb dX6_bounds_167 (by decide) ?_
            refine lv_goto (tgt := 172) hx hb dX6_bounds_168 (by decide) ?_
            obtain ⟨rfl, rfl⟩ := hE
            exact en_i F hS _ () (by rfl) rfl hP hD (Nat.le_refl _) (Nat.le_refl _) dX6_bounds_172
          ·
            rw [if_neg h35] at hE
            refine lv_aload_n hx hb dX6_bounds_152 rfl (lv_at hl 0 rfl) ?_
            refine va_get (D := G.1) (ci := 6) (C := RX6) (T := TX6) (N := 48) hx hb hts inX6 hown hK.1 hP 0 mW_0 rfl 10 (by decide) (hts _ w_856) (fun _ h9 => h9) mF_10 dX6_bounds_153 ?_
            refine lv_iload_n hx hb dX6_bounds_156 rfl (lv_at hl 1 rfl) ?_
            obtain ⟨hin, hE⟩ := hE
            refine va_iald (D := G.1) hx hb hK.1 hP 5 0 mW_g10 rfl hin dX6_bounds_157 ?_
            refine lv_aload_n hx hb dX6_bounds_158 rfl (lv_at hl 0 rfl) ?_
            refine va_get (D := G.1) (ci := 6) (C := RX6) (T := TX6) (N := 48) hx hb hts inX6 hown hK.1 hP 0 mW_0 rfl 9 (by decide) (hts _ w_855) (fun _ h9 => h9) mF_9 dX6_bounds_159 ?_
            refine lv_iload_n hx hb dX6_bounds_162 rfl (lv_at hl 1 rfl) ?_
            obtain ⟨hin, hE⟩ := hE
            refine va_iald (D := G.1) hx hb hK.1 hP 4 0 mW_g9 rfl hin dX6_bounds_163 ?_
            refine jn_v (v := (if (R32.2.1 10 a1.toNatClampNeg) < (R32.2.1 9 a1.toNatClampNeg) then 0 else 1 : Int32)) (pcM := 172) (rest := []) (fun kM => ?_) ?_
            ·
              refine lv_icmp_lt (tgt := 171) hx hb dX6_bounds_164 (by decide) (fun h37 => ?_) (fun h37 => ?_)
              ·
                refine lv_iconst (v := 0) hx hb dX6_bounds_171 (by decide) ?_
                exact kM _ (by try rw [if_pos h37])
              ·
                refine lv_iconst (v := 1) hx hb dX6_bounds_167 (by decide) ?_
                refine lv_goto (tgt := 172) hx hb dX6_bounds_168 (by decide) ?_
                exact kM _ (by try rw [if_neg h37])
            obtain ⟨hn, rfl, rfl⟩ := hE
            exact en_i F hS _ () hn rfl hP hD (Nat.le_refl _) (Nat.le_refl _) dX6_bounds_172
  ·
    rw [if_pos h4] at hE
    refine lv_iconst (v := 0) hx hb dX6_bounds_11 (by decide) ?_
    obtain ⟨rfl, rfl⟩ := hE
    exact en_i F hS _ () (by rfl) rfl hP hD (Nat.le_refl _) (Nat.le_refl _) dX6_bounds_12

theorem dX6_loop_0 : decode cX6_loop 0 = .ok (.iload_n 1, 1) := by decide +kernel
theorem dX6_loop_1 : decode cX6_loop 1 = .ok (.iconst (-1), 1) := by decide +kernel
theorem dX6_loop_2 : decode cX6_loop 2 = .ok (.if_icmp .ne 5, 3) := by decide +kernel
theorem dX6_loop_5 : decode cX6_loop 5 = .ok (.iconst 0, 1) := by decide +kernel
theorem dX6_loop_6 : decode cX6_loop 6 = .ok (.ireturn, 1) := by decide +kernel
theorem dX6_loop_7 : decode cX6_loop 7 = .ok (.aload_n 0, 1) := by decide +kernel
theorem dX6_loop_8 : decode cX6_loop 8 = .ok (.iconst 0, 1) := by decide +kernel
theorem dX6_loop_9 : decode cX6_loop 9 = .ok (.invokevirtual 147, 3) := by decide +kernel
theorem dX6_loop_12 : decode cX6_loop 12 = .ok (.istore_n 2, 1) := by decide +kernel
theorem dX6_loop_13 : decode cX6_loop 13 = .ok (.iload_n 2, 1) := by decide +kernel
theorem dX6_loop_14 : decode cX6_loop 14 = .ok (.bipush 63, 2) := by decide +kernel
theorem dX6_loop_16 : decode cX6_loop 16 = .ok (.if_icmp .eq 28, 3) := by decide +kernel
theorem dX6_loop_19 : decode cX6_loop 19 = .ok (.iload_n 2, 1) := by decide +kernel
theorem dX6_loop_20 : decode cX6_loop 20 = .ok (.bipush 42, 2) := by decide +kernel
theorem dX6_loop_22 : decode cX6_loop 22 = .ok (.if_icmp .eq 22, 3) := by decide +kernel
theorem dX6_loop_25 : decode cX6_loop 25 = .ok (.iload_n 2, 1) := by decide +kernel
theorem dX6_loop_26 : decode cX6_loop 26 = .ok (.bipush 43, 2) := by decide +kernel
theorem dX6_loop_28 : decode cX6_loop 28 = .ok (.if_icmp .eq 16, 3) := by decide +kernel
theorem dX6_loop_31 : decode cX6_loop 31 = .ok (.iload_n 2, 1) := by decide +kernel
theorem dX6_loop_32 : decode cX6_loop 32 = .ok (.bipush 123, 2) := by decide +kernel
theorem dX6_loop_34 : decode cX6_loop 34 = .ok (.if_icmp .eq 10, 3) := by decide +kernel
theorem dX6_loop_37 : decode cX6_loop 37 = .ok (.aload_n 0, 1) := by decide +kernel
theorem dX6_loop_38 : decode cX6_loop 38 = .ok (.iload_n 1, 1) := by decide +kernel
theorem dX6_loop_39 : decode cX6_loop 39 = .ok (.invokevirtual 186, 3) := by decide +kernel
theorem dX6_loop_42 : decode cX6_loop 42 = .ok (.iconst 1, 1) := by decide +kernel
theorem dX6_loop_43 : decode cX6_loop 43 = .ok (.ireturn, 1) := by decide +kernel
theorem dX6_loop_44 : decode cX6_loop 44 = .ok (.aload_n 0, 1) := by decide +kernel
theorem dX6_loop_45 : decode cX6_loop 45 = .ok (.bipush 15, 2) := by decide +kernel
theorem dX6_loop_47 : decode cX6_loop 47 = .ok (.invokevirtual 123, 3) := by decide +kernel
theorem dX6_loop_50 : decode cX6_loop 50 = .ok (.istore_n 3, 1) := by decide +kernel
theorem dX6_loop_51 : decode cX6_loop 51 = .ok (.aload_n 0, 1) := by decide +kernel
theorem dX6_loop_52 : decode cX6_loop 52 = .ok (.getfield 28, 3) := by decide +kernel
theorem dX6_loop_55 : decode cX6_loop 55 = .ok (.iload_n 3, 1) := by decide +kernel
theorem dX6_loop_56 : decode cX6_loop 56 = .ok (.iload_n 1, 1) := by decide +kernel
theorem dX6_loop_57 : decode cX6_loop 57 = .ok (.iastore, 1) := by decide +kernel
theorem dX6_loop_58 : decode cX6_loop 58 = .ok (.aload_n 0, 1) := by decide +kernel
theorem dX6_loop_59 : decode cX6_loop 59 = .ok (.getfield 19, 3) := by decide +kernel
theorem dX6_loop_62 : decode cX6_loop 62 = .ok (.iload_n 3, 1) := by decide +kernel
theorem dX6_loop_63 : decode cX6_loop 63 = .ok (.iload_n 2, 1) := by decide +kernel
theorem dX6_loop_64 : decode cX6_loop 64 = .ok (.bipush 43, 2) := by decide +kernel
theorem dX6_loop_66 : decode cX6_loop 66 = .ok (.if_icmp .ne 7, 3) := by decide +kernel
theorem dX6_loop_69 : decode cX6_loop 69 = .ok (.iconst 1, 1) := by decide +kernel
theorem dX6_loop_70 : decode cX6_loop 70 = .ok (.goto 4, 3) := by decide +kernel
theorem dX6_loop_73 : decode cX6_loop 73 = .ok (.iconst 0, 1) := by decide +kernel
theorem dX6_loop_74 : decode cX6_loop 74 = .ok (.iastore, 1) := by decide +kernel
theorem dX6_loop_75 : decode cX6_loop 75 = .ok (.aload_n 0, 1) := by decide +kernel
theorem dX6_loop_76 : decode cX6_loop 76 = .ok (.getfield 22, 3) := by decide +kernel
theorem dX6_loop_79 : decode cX6_loop 79 = .ok (.iload_n 3, 1) := by decide +kernel
theorem dX6_loop_80 : decode cX6_loop 80 = .ok (.iload_n 2, 1) := by decide +kernel
theorem dX6_loop_81 : decode cX6_loop 81 = .ok (.bipush 63, 2) := by decide +kernel
theorem dX6_loop_83 : decode cX6_loop 83 = .ok (.if_icmp .ne 7, 3) := by decide +kernel
theorem dX6_loop_86 : decode cX6_loop 86 = .ok (.iconst 1, 1) := by decide +kernel
theorem dX6_loop_87 : decode cX6_loop 87 = .ok (.goto 4, 3) := by decide +kernel
theorem dX6_loop_90 : decode cX6_loop 90 = .ok (.iconst (-1), 1) := by decide +kernel
theorem dX6_loop_91 : decode cX6_loop 91 = .ok (.iastore, 1) := by decide +kernel
theorem dX6_loop_92 : decode cX6_loop 92 = .ok (.aload_n 0, 1) := by decide +kernel
theorem dX6_loop_93 : decode cX6_loop 93 = .ok (.dup, 1) := by decide +kernel
theorem dX6_loop_94 : decode cX6_loop 94 = .ok (.getfield 114, 3) := by decide +kernel
theorem dX6_loop_97 : decode cX6_loop 97 = .ok (.iconst 1, 1) := by decide +kernel
theorem dX6_loop_98 : decode cX6_loop 98 = .ok (.iadd, 1) := by decide +kernel
theorem dX6_loop_99 : decode cX6_loop 99 = .ok (.putfield 114, 3) := by decide +kernel
theorem dX6_loop_102 : decode cX6_loop 102 = .ok (.iload_n 2, 1) := by decide +kernel
theorem dX6_loop_103 : decode cX6_loop 103 = .ok (.bipush 123, 2) := by decide +kernel
theorem dX6_loop_105 : decode cX6_loop 105 = .ok (.if_icmp .ne 13, 3) := by decide +kernel
theorem dX6_loop_108 : decode cX6_loop 108 = .ok (.aload_n 0, 1) := by decide +kernel
theorem dX6_loop_109 : decode cX6_loop 109 = .ok (.iload_n 3, 1) := by decide +kernel
theorem dX6_loop_110 : decode cX6_loop 110 = .ok (.invokevirtual 190, 3) := by decide +kernel
theorem dX6_loop_113 : decode cX6_loop 113 = .ok (.ifCond .ne 5, 3) := by decide +kernel
theorem dX6_loop_116 : decode cX6_loop 116 = .ok (.iconst 0, 1) := by decide +kernel
theorem dX6_loop_117 : decode cX6_loop 117 = .ok (.ireturn, 1) := by decide +kernel
theorem dX6_loop_118 : decode cX6_loop 118 = .ok (.aload_n 0, 1) := by decide +kernel
theorem dX6_loop_119 : decode cX6_loop 119 = .ok (.getfield 22, 3) := by decide +kernel
theorem dX6_loop_122 : decode cX6_loop 122 = .ok (.iload_n 3, 1) := by decide +kernel
theorem dX6_loop_123 : decode cX6_loop 123 = .ok (.iaload, 1) := by decide +kernel
theorem dX6_loop_124 : decode cX6_loop 124 = .ok (.iconst (-1), 1) := by decide +kernel
theorem dX6_loop_125 : decode cX6_loop 125 = .ok (.if_icmp .ne 17, 3) := by decide +kernel
theorem dX6_loop_128 : decode cX6_loop 128 = .ok (.aload_n 0, 1) := by decide +kernel
theorem dX6_loop_129 : decode cX6_loop 129 = .ok (.getfield 53, 3) := by decide +kernel
theorem dX6_loop_132 : decode cX6_loop 132 = .ok (.aload_n 0, 1) := by decide +kernel
theorem dX6_loop_133 : decode cX6_loop 133 = .ok (.getfield 126, 3) := by decide +kernel
theorem dX6_loop_136 : decode cX6_loop 136 = .ok (.baload, 1) := by decide +kernel
theorem dX6_loop_137 : decode cX6_loop 137 = .ok (.ifCond .eq 5, 3) := by decide +kernel
theorem dX6_loop_140 : decode cX6_loop 140 = .ok (.iconst 0, 1) := by decide +kernel
theorem dX6_loop_141 : decode cX6_loop 141 = .ok (.ireturn, 1) := by decide +kernel
theorem dX6_loop_142 : decode cX6_loop 142 = .ok (.aload_n 0, 1) := by decide +kernel
theorem dX6_loop_143 : decode cX6_loop 143 = .ok (.iconst 0, 1) := by decide +kernel
theorem dX6_loop_144 : decode cX6_loop 144 = .ok (.invokevirtual 147, 3) := by decide +kernel
theorem dX6_loop_147 : decode cX6_loop 147 = .ok (.istore 4, 2) := by decide +kernel
theorem dX6_loop_149 : decode cX6_loop 149 = .ok (.aload_n 0, 1) := by decide +kernel
theorem dX6_loop_150 : decode cX6_loop 150 = .ok (.getfield 25, 3) := by decide +kernel
theorem dX6_loop_153 : decode cX6_loop 153 = .ok (.iload_n 3, 1) := by decide +kernel
theorem dX6_loop_154 : decode cX6_loop 154 = .ok (.iload 4, 2) := by decide +kernel
theorem dX6_loop_156 : decode cX6_loop 156 = .ok (.bipush 63, 2) := by decide +kernel
theorem dX6_loop_158 : decode cX6_loop 158 = .ok (.if_icmp .ne 7, 3) := by decide +kernel
theorem dX6_loop_161 : decode cX6_loop 161 = .ok (.iconst 1, 1) := by decide +kernel
theorem dX6_loop_162 : decode cX6_loop 162 = .ok (.goto 15, 3) := by decide +kernel
theorem dX6_loop_165 : decode cX6_loop 165 = .ok (.iload 4, 2) := by decide +kernel
theorem dX6_loop_167 : decode cX6_loop 167 = .ok (.bipush 43, 2) := by decide +kernel
theorem dX6_loop_169 : decode cX6_loop 169 = .ok (.if_icmp .ne 7, 3) := by decide +kernel
theorem dX6_loop_172 : decode cX6_loop 172 = .ok (.iconst 2, 1) := by decide +kernel
theorem dX6_loop_173 : decode cX6_loop 173 = .ok (.goto 4, 3) := by decide +kernel
theorem dX6_loop_176 : decode cX6_loop 176 = .ok (.iconst 0, 1) := by decide +kernel
theorem dX6_loop_177 : decode cX6_loop 177 = .ok (.iastore, 1) := by decide +kernel
theorem dX6_loop_178 : decode cX6_loop 178 = .ok (.aload_n 0, 1) := by decide +kernel
theorem dX6_loop_179 : decode cX6_loop 179 = .ok (.dup, 1) := by decide +kernel
theorem dX6_loop_180 : decode cX6_loop 180 = .ok (.getfield 114, 3) := by decide +kernel
theorem dX6_loop_183 : decode cX6_loop 183 = .ok (.aload_n 0, 1) := by decide +kernel
theorem dX6_loop_184 : decode cX6_loop 184 = .ok (.getfield 25, 3) := by decide +kernel
theorem dX6_loop_187 : decode cX6_loop 187 = .ok (.iload_n 3, 1) := by decide +kernel
theorem dX6_loop_188 : decode cX6_loop 188 = .ok (.iaload, 1) := by decide +kernel
theorem dX6_loop_189 : decode cX6_loop 189 = .ok (.ifCond .ne 7, 3) := by decide +kernel
theorem dX6_loop_192 : decode cX6_loop 192 = .ok (.iconst 0, 1) := by decide +kernel
theorem dX6_loop_193 : decode cX6_loop 193 = .ok (.goto 4, 3) := by decide +kernel
theorem dX6_loop_196 : decode cX6_loop 196 = .ok (.iconst 1, 1) := by decide +kernel
theorem dX6_loop_197 : decode cX6_loop 197 = .ok (.iadd, 1) := by decide +kernel
theorem dX6_loop_198 : decode cX6_loop 198 = .ok (.putfield 114, 3) := by decide +kernel
theorem dX6_loop_201 : decode cX6_loop 201 = .ok (.aload_n 0, 1) := by decide +kernel
theorem dX6_loop_202 : decode cX6_loop 202 = .ok (.iload_n 3, 1) := by decide +kernel
theorem dX6_loop_203 : decode cX6_loop 203 = .ok (.invokevirtual 186, 3) := by decide +kernel
theorem dX6_loop_206 : decode cX6_loop 206 = .ok (.iconst 1, 1) := by decide +kernel
theorem dX6_loop_207 : decode cX6_loop 207 = .ok (.ireturn, 1) := by decide +kernel
def E_loop (R : RS) (a1 : Int32) (R' : RS) (r : Int32) : Prop := if a1 = (-1) then (R' = R ∧ r = 0) else (∃ (R2 : RS) (r3 : Int32), E_peek R 0 R2 r3 ∧ (if r3 = 63 then (∃ (R5 : RS) (r6 : Int32), E_create R2 15 R5 r6 ∧ (vp_in r6 96 ∧ (vp_in r6 96 ∧ (vp_in r6 96 ∧ (if r3 = 123 then (∃ (R32 : RS) (r33 : Int32), E_bounds (mf (ma (ma (ma R5 12 r6.toNatClampNeg a1) 9 r6.toNatClampNeg (if r3 = 43 then 1 else 0 : Int32)) 10 r6.toNatClampNeg (if r3 = 63 then 1 else (-1) : Int32)) 17 ((R5.1 17) + 1)) r6 R32 r33 ∧ (if r33 = 0 then (R' = R32 ∧ r = 0) else (vp_in r6 96 ∧ (if (R32.2.1 10 r6.toNatClampNeg) = (-1) then (vp_in (R32.1 16) 6 ∧ (if (R32.2.1 22 (R32.1 16).toNatClampNeg) = 0 then (∃ (R46 : RS) (r47 : Int32), E_peek R32 0 R46 r47 ∧ (vp_in r6 96 ∧ (vp_in r6 96 ∧ (∃ R53 : RS, E_append (mf (ma R46 11 r6.toNatClampNeg (if r47 = 63 then 1 else (if r47 = 43 then 2 else 0 : Int32) : Int32)) 17 ((R46.1 17) + (if ((ma R46 11 r6.toNatClampNeg (if r47 = 63 then 1 else (if r47 = 43 then 2 else 0 : Int32) : Int32)).2.1 11 r6.toNatClampNeg) = 0 then 0 else 1 : Int32))) r6 R53 0 ∧ (R' = R53 ∧ r = 1))))) else (R' = R32 ∧ r = 0))) else (∃ (R36 : RS) (r37 : Int32), E_peek R32 0 R36 r37 ∧ (vp_in r6 96 ∧ (vp_in r6 96 ∧ (∃ R43 : RS, E_append (mf (ma R36 11 r6.toNatClampNeg (if r37 = 63 then 1 else (if r37 = 43 then 2 else 0 : Int32) : Int32)) 17 ((R36.1 17) + (if ((ma R36 11 r6.toNatClampNeg (if r37 = 63 then 1 else (if r37 = 43 then 2 else 0 : Int32) : Int32)).2.1 11 r6.toNatClampNeg) = 0 then 0 else 1 : Int32))) r6 R43 0 ∧ (R' = R43 ∧ r = 1))))))))) else (vp_in r6 96 ∧ (if ((mf (ma (ma (ma R5 12 r6.toNatClampNeg a1) 9 r6.toNatClampNeg (if r3 = 43 then 1 else 0 : Int32)) 10 r6.toNatClampNeg (if r3 = 63 then 1 else (-1) : Int32)) 17 ((R5.1 17) + 1)).2.1 10 r6.toNatClampNeg) = (-1) then (vp_in (R5.1 16) 6 ∧ (if (R5.2.1 22 (R5.1 16).toNatClampNeg) = 0 then (∃ (R23 : RS) (r24 : Int32), E_peek (mf (ma (ma (ma R5 12 r6.toNatClampNeg a1) 9 r6.toNatClampNeg (if r3 = 43 then 1 else 0 : Int32)) 10 r6.toNatClampNeg (if r3 = 63 then 1 else (-1) : Int32)) 17 ((R5.1 17) + 1)) 0 R23 r24 ∧ (vp_in r6 96 ∧ (vp_in r6 96 ∧ (∃ R30 : RS, E_append (mf (ma R23 11 r6.toNatClampNeg (if r24 = 63 then 1 else (if r24 = 43 then 2 else 0 : Int32) : Int32)) 17 ((R23.1 17) + (if ((ma R23 11 r6.toNatClampNeg (if r24 = 63 then 1 else (if r24 = 43 then 2 else 0 : Int32) : Int32)).2.1 11 r6.toNatClampNeg) = 0 then 0 else 1 : Int32))) r6 R30 0 ∧ (R' = R30 ∧ r = 1))))) else (R' = (mf (ma (ma (ma R5 12 r6.toNatClampNeg a1) 9 r6.toNatClampNeg (if r3 = 43 then 1 else 0 : Int32)) 10 r6.toNatClampNeg (if r3 = 63 then 1 else (-1) : Int32)) 17 ((R5.1 17) + 1)) ∧ r = 0))) else (∃ (R13 : RS) (r14 : Int32), E_peek (mf (ma (ma (ma R5 12 r6.toNatClampNeg a1) 9 r6.toNatClampNeg (if r3 = 43 then 1 else 0 : Int32)) 10 r6.toNatClampNeg (if r3 = 63 then 1 else (-1) : Int32)) 17 ((R5.1 17) + 1)) 0 R13 r14 ∧ (vp_in r6 96 ∧ (vp_in r6 96 ∧ (∃ R20 : RS, E_append (mf (ma R13 11 r6.toNatClampNeg (if r14 = 63 then 1 else (if r14 = 43 then 2 else 0 : Int32) : Int32)) 17 ((R13.1 17) + (if ((ma R13 11 r6.toNatClampNeg (if r14 = 63 then 1 else (if r14 = 43 then 2 else 0 : Int32) : Int32)).2.1 11 r6.toNatClampNeg) = 0 then 0 else 1 : Int32))) r6 R20 0 ∧ (R' = R20 ∧ r = 1)))))))))))) else (if r3 = 42 then (∃ (R56 : RS) (r57 : Int32), E_create R2 15 R56 r57 ∧ (vp_in r57 96 ∧ (vp_in r57 96 ∧ (vp_in r57 96 ∧ (if r3 = 123 then (∃ (R83 : RS) (r84 : Int32), E_bounds (mf (ma (ma (ma R56 12 r57.toNatClampNeg a1) 9 r57.toNatClampNeg (if r3 = 43 then 1 else 0 : Int32)) 10 r57.toNatClampNeg (if r3 = 63 then 1 else (-1) : Int32)) 17 ((R56.1 17) + 1)) r57 R83 r84 ∧ (if r84 = 0 then (R' = R83 ∧ r = 0) else (vp_in r57 96 ∧ (if (R83.2.1 10 r57.toNatClampNeg) = (-1) then (vp_in (R83.1 16) 6 ∧ (if (R83.2.1 22 (R83.1 16).toNatClampNeg) = 0 then (∃ (R97 : RS) (r98 : Int32), E_peek R83 0 R97 r98 ∧ (vp_in r57 96 ∧ (vp_in r57 96 ∧ (∃ R104 : RS, E_append (mf (ma R97 11 r57.toNatClampNeg (if r98 = 63 then 1 else (if r98 = 43 then 2 else 0 : Int32) : Int32)) 17 ((R97.1 17) + (if ((ma R97 11 r57.toNatClampNeg (if r98 = 63 then 1 else (if r98 = 43 then 2 else 0 : Int32) : Int32)).2.1 11 r57.toNatClampNeg) = 0 then 0 else 1 : Int32))) r57 R104 0 ∧ (R' = R104 ∧ r = 1))))) else (R' = R83 ∧ r = 0))) else (∃ (R87 : RS) (r88 : Int32), E_peek R83 0 R87 r88 ∧ (vp_in r57 96 ∧ (vp_in r57 96 ∧ (∃ R94 : RS, E_append (mf (ma R87 11 r57.toNatClampNeg (if r88 = 63 then 1 else (if r88 = 43 then 2 else 0 : Int32) : Int32)) 17 ((R87.1 17) + (if ((ma R87 11 r57.toNatClampNeg (if r88 = 63 then 1 else (if r88 = 43 then 2 else 0 : Int32) : Int32)).2.1 11 r57.toNatClampNeg) = 0 then 0 else 1 : Int32))) r57 R94 0 ∧ (R' = R94 ∧ r = 1))))))))) else (vp_in r57 96 ∧ (if ((mf (ma (ma (ma R56 12 r57.toNatClampNeg a1) 9 r57.toNatClampNeg (if r3 = 43 then 1 else 0 : Int32)) 10 r57.toNatClampNeg (if r3 = 63 then 1 else (-1) : Int32)) 17 ((R56.1 17) + 1)).2.1 10 r57.toNatClampNeg) = (-1) then (vp_in (R56.1 16) 6 ∧ (if (R56.2.1 22 (R56.1 16).toNatClampNeg) = 0 then (∃ (R74 : RS) (r75 : Int32), E_peek (mf (ma (ma (ma R56 12 r57.toNatClampNeg a1) 9 r57.toNatClampNeg (if r3 = 43 then 1 else 0 : Int32)) 10 r57.toNatClampNeg (if r3 = 63 then 1 else (-1) : Int32)) 17 ((R56.1 17) + 1)) 0 R74 r75 ∧ (vp_in r57 96 ∧ (vp_in r57 96 ∧ (∃ R81 : RS, E_append (mf (ma R74 11 r57.toNatClampNeg (if r75 = 63 then 1 else (if r75 = 43 then 2 else 0 : Int32) : Int32)) 17 ((R74.1 17) + (if ((ma R74 11 r57.toNatClampNeg (if r75 = 63 then 1 else (if r75 = 43 then 2 else 0 : Int32) : Int32)).2.1 11 r57.toNatClampNeg) = 0 then 0 else 1 : Int32))) r57 R81 0 ∧ (R' = R81 ∧ r = 1))))) else (R' = (mf (ma (ma (ma R56 12 r57.toNatClampNeg a1) 9 r57.toNatClampNeg (if r3 = 43 then 1 else 0 : Int32)) 10 r57.toNatClampNeg (if r3 = 63 then 1 else (-1) : Int32)) 17 ((R56.1 17) + 1)) ∧ r = 0))) else (∃ (R64 : RS) (r65 : Int32), E_peek (mf (ma (ma (ma R56 12 r57.toNatClampNeg a1) 9 r57.toNatClampNeg (if r3 = 43 then 1 else 0 : Int32)) 10 r57.toNatClampNeg (if r3 = 63 then 1 else (-1) : Int32)) 17 ((R56.1 17) + 1)) 0 R64 r65 ∧ (vp_in r57 96 ∧ (vp_in r57 96 ∧ (∃ R71 : RS, E_append (mf (ma R64 11 r57.toNatClampNeg (if r65 = 63 then 1 else (if r65 = 43 then 2 else 0 : Int32) : Int32)) 17 ((R64.1 17) + (if ((ma R64 11 r57.toNatClampNeg (if r65 = 63 then 1 else (if r65 = 43 then 2 else 0 : Int32) : Int32)).2.1 11 r57.toNatClampNeg) = 0 then 0 else 1 : Int32))) r57 R71 0 ∧ (R' = R71 ∧ r = 1)))))))))))) else (if r3 = 43 then (∃ (R107 : RS) (r108 : Int32), E_create R2 15 R107 r108 ∧ (vp_in r108 96 ∧ (vp_in r108 96 ∧ (vp_in r108 96 ∧ (if r3 = 123 then (∃ (R134 : RS) (r135 : Int32), E_bounds (mf (ma (ma (ma R107 12 r108.toNatClampNeg a1) 9 r108.toNatClampNeg (if r3 = 43 then 1 else 0 : Int32)) 10 r108.toNatClampNeg (if r3 = 63 then 1 else (-1) : Int32)) 17 ((R107.1 17) + 1)) r108 R134 r135 ∧ (if r135 = 0 then (R' = R134 ∧ r = 0) else (vp_in r108 96 ∧ (if (R134.2.1 10 r108.toNatClampNeg) = (-1) then (vp_in (R134.1 16) 6 ∧ (if (R134.2.1 22 (R134.1 16).toNatClampNeg) = 0 then (∃ (R148 : RS) (r149 : Int32), E_peek R134 0 R148 r149 ∧ (vp_in r108 96 ∧ (vp_in r108 96 ∧ (∃ R155 : RS, E_append (mf (ma R148 11 r108.toNatClampNeg (if r149 = 63 then 1 else (if r149 = 43 then 2 else 0 : Int32) : Int32)) 17 ((R148.1 17) + (if ((ma R148 11 r108.toNatClampNeg (if r149 = 63 then 1 else (if r149 = 43 then 2 else 0 : Int32) : Int32)).2.1 11 r108.toNatClampNeg) = 0 then 0 else 1 : Int32))) r108 R155 0 ∧ (R' = R155 ∧ r = 1))))) else (R' = R134 ∧ r = 0))) else (∃ (R138 : RS) (r139 : Int32), E_peek R134 0 R138 r139 ∧ (vp_in r108 96 ∧ (vp_in r108 96 ∧ (∃ R145 : RS, E_append (mf (ma R138 11 r108.toNatClampNeg (if r139 = 63 then 1 else (if r139 = 43 then 2 else 0 : Int32) : Int32)) 17 ((R138.1 17) + (if ((ma R138 11 r108.toNatClampNeg (if r139 = 63 then 1 else (if r139 = 43 then 2 else 0 : Int32) : Int32)).2.1 11 r108.toNatClampNeg) = 0 then 0 else 1 : Int32))) r108 R145 0 ∧ (R' = R145 ∧ r = 1))))))))) else (vp_in r108 96 ∧ (if ((mf (ma (ma (ma R107 12 r108.toNatClampNeg a1) 9 r108.toNatClampNeg (if r3 = 43 then 1 else 0 : Int32)) 10 r108.toNatClampNeg (if r3 = 63 then 1 else (-1) : Int32)) 17 ((R107.1 17) + 1)).2.1 10 r108.toNatClampNeg) = (-1) then (vp_in (R107.1 16) 6 ∧ (if (R107.2.1 22 (R107.1 16).toNatClampNeg) = 0 then (∃ (R125 : RS) (r126 : Int32), E_peek (mf (ma (ma (ma R107 12 r108.toNatClampNeg a1) 9 r108.toNatClampNeg (if r3 = 43 then 1 else 0 : Int32)) 10 r108.toNatClampNeg (if r3 = 63 then 1 else (-1) : Int32)) 17 ((R107.1 17) + 1)) 0 R125 r126 ∧ (vp_in r108 96 ∧ (vp_in r108 96 ∧ (∃ R132 : RS, E_append (mf (ma R125 11 r108.toNatClampNeg (if r126 = 63 then 1 else (if r126 = 43 then 2 else 0 : Int32) : Int32)) 17 ((R125.1 17) + (if ((ma R125 11 r108.toNatClampNeg (if r126 = 63 then 1 else (if r126 = 43 then 2 else 0 : Int32) : Int32)).2.1 11 r108.toNatClampNeg) = 0 then 0 else 1 : Int32))) r108 R132 0 ∧ (R' = R132 ∧ r = 1))))) else (R' = (mf (ma (ma (ma R107 12 r108.toNatClampNeg a1) 9 r108.toNatClampNeg (if r3 = 43 then 1 else 0 : Int32)) 10 r108.toNatClampNeg (if r3 = 63 then 1 else (-1) : Int32)) 17 ((R107.1 17) + 1)) ∧ r = 0))) else (∃ (R115 : RS) (r116 : Int32), E_peek (mf (ma (ma (ma R107 12 r108.toNatClampNeg a1) 9 r108.toNatClampNeg (if r3 = 43 then 1 else 0 : Int32)) 10 r108.toNatClampNeg (if r3 = 63 then 1 else (-1) : Int32)) 17 ((R107.1 17) + 1)) 0 R115 r116 ∧ (vp_in r108 96 ∧ (vp_in r108 96 ∧ (∃ R122 : RS, E_append (mf (ma R115 11 r108.toNatClampNeg (if r116 = 63 then 1 else (if r116 = 43 then 2 else 0 : Int32) : Int32)) 17 ((R115.1 17) + (if ((ma R115 11 r108.toNatClampNeg (if r116 = 63 then 1 else (if r116 = 43 then 2 else 0 : Int32) : Int32)).2.1 11 r108.toNatClampNeg) = 0 then 0 else 1 : Int32))) r108 R122 0 ∧ (R' = R122 ∧ r = 1)))))))))))) else (if r3 = 123 then (∃ (R158 : RS) (r159 : Int32), E_create R2 15 R158 r159 ∧ (vp_in r159 96 ∧ (vp_in r159 96 ∧ (vp_in r159 96 ∧ (if r3 = 123 then (∃ (R185 : RS) (r186 : Int32), E_bounds (mf (ma (ma (ma R158 12 r159.toNatClampNeg a1) 9 r159.toNatClampNeg (if r3 = 43 then 1 else 0 : Int32)) 10 r159.toNatClampNeg (if r3 = 63 then 1 else (-1) : Int32)) 17 ((R158.1 17) + 1)) r159 R185 r186 ∧ (if r186 = 0 then (R' = R185 ∧ r = 0) else (vp_in r159 96 ∧ (if (R185.2.1 10 r159.toNatClampNeg) = (-1) then (vp_in (R185.1 16) 6 ∧ (if (R185.2.1 22 (R185.1 16).toNatClampNeg) = 0 then (∃ (R199 : RS) (r200 : Int32), E_peek R185 0 R199 r200 ∧ (vp_in r159 96 ∧ (vp_in r159 96 ∧ (∃ R206 : RS, E_append (mf (ma R199 11 r159.toNatClampNeg (if r200 = 63 then 1 else (if r200 = 43 then 2 else 0 : Int32) : Int32)) 17 ((R199.1 17) + (if ((ma R199 11 r159.toNatClampNeg (if r200 = 63 then 1 else (if r200 = 43 then 2 else 0 : Int32) : Int32)).2.1 11 r159.toNatClampNeg) = 0 then 0 else 1 : Int32))) r159 R206 0 ∧ (R' = R206 ∧ r = 1))))) else (R' = R185 ∧ r = 0))) else (∃ (R189 : RS) (r190 : Int32), E_peek R185 0 R189 r190 ∧ (vp_in r159 96 ∧ (vp_in r159 96 ∧ (∃ R196 : RS, E_append (mf (ma R189 11 r159.toNatClampNeg (if r190 = 63 then 1 else (if r190 = 43 then 2 else 0 : Int32) : Int32)) 17 ((R189.1 17) + (if ((ma R189 11 r159.toNatClampNeg (if r190 = 63 then 1 else (if r190 = 43 then 2 else 0 : Int32) : Int32)).2.1 11 r159.toNatClampNeg) = 0 then 0 else 1 : Int32))) r159 R196 0 ∧ (R' = R196 ∧ r = 1))))))))) else (vp_in r159 96 ∧ (if ((mf (ma (ma (ma R158 12 r159.toNatClampNeg a1) 9 r159.toNatClampNeg (if r3 = 43 then 1 else 0 : Int32)) 10 r159.toNatClampNeg (if r3 = 63 then 1 else (-1) : Int32)) 17 ((R158.1 17) + 1)).2.1 10 r159.toNatClampNeg) = (-1) then (vp_in (R158.1 16) 6 ∧ (if (R158.2.1 22 (R158.1 16).toNatClampNeg) = 0 then (∃ (R176 : RS) (r177 : Int32), E_peek (mf (ma (ma (ma R158 12 r159.toNatClampNeg a1) 9 r159.toNatClampNeg (if r3 = 43 then 1 else 0 : Int32)) 10 r159.toNatClampNeg (if r3 = 63 then 1 else (-1) : Int32)) 17 ((R158.1 17) + 1)) 0 R176 r177 ∧ (vp_in r159 96 ∧ (vp_in r159 96 ∧ (∃ R183 : RS, E_append (mf (ma R176 11 r159.toNatClampNeg (if r177 = 63 then 1 else (if r177 = 43 then 2 else 0 : Int32) : Int32)) 17 ((R176.1 17) + (if ((ma R176 11 r159.toNatClampNeg (if r177 = 63 then 1 else (if r177 = 43 then 2 else 0 : Int32) : Int32)).2.1 11 r159.toNatClampNeg) = 0 then 0 else 1 : Int32))) r159 R183 0 ∧ (R' = R183 ∧ r = 1))))) else (R' = (mf (ma (ma (ma R158 12 r159.toNatClampNeg a1) 9 r159.toNatClampNeg (if r3 = 43 then 1 else 0 : Int32)) 10 r159.toNatClampNeg (if r3 = 63 then 1 else (-1) : Int32)) 17 ((R158.1 17) + 1)) ∧ r = 0))) else (∃ (R166 : RS) (r167 : Int32), E_peek (mf (ma (ma (ma R158 12 r159.toNatClampNeg a1) 9 r159.toNatClampNeg (if r3 = 43 then 1 else 0 : Int32)) 10 r159.toNatClampNeg (if r3 = 63 then 1 else (-1) : Int32)) 17 ((R158.1 17) + 1)) 0 R166 r167 ∧ (vp_in r159 96 ∧ (vp_in r159 96 ∧ (∃ R173 : RS, E_append (mf (ma R166 11 r159.toNatClampNeg (if r167 = 63 then 1 else (if r167 = 43 then 2 else 0 : Int32) : Int32)) 17 ((R166.1 17) + (if ((ma R166 11 r159.toNatClampNeg (if r167 = 63 then 1 else (if r167 = 43 then 2 else 0 : Int32) : Int32)).2.1 11 r159.toNatClampNeg) = 0 then 0 else 1 : Int32))) r159 R173 0 ∧ (R' = R173 ∧ r = 1)))))))))))) else (∃ R208 : RS, E_append R2 a1 R208 0 ∧ (R' = R208 ∧ r = 1)))))))
set_option maxHeartbeats 4000000 in
set_option maxRecDepth 100000 in
theorem e_loop (l : Launch) (G : PG) (h : Nat) (q : Nat → Nat) (R : RS) (a1 : Int32) (R' : RS) (r : Int32) (hE : E_loop R a1 R' r) : Ci l yX6_loop (Cond.code yX6_loop cX6_loop 5 (some .boolean) :: aW) { frames := 2, cells := 0, slots := 0, locals := 42 } G (mW G h q R) [.ref h, .int a1] (fun (r9 : Int32) (_ : Unit) => r9 = r) (fun (_ : Unit) => mW G h q R') 0 0 := by
  refine ofB (y := yX6_loop) (G := G) (cc := cX6_loop) (maxL := 5) (ret := (some .boolean)) (Qc := fun A => va_Qi (fun (r9 : Int32) (_ : Unit) => r9 = r) (oB G A (fun (_ : Unit) => mW G h q R')) A) (by decide) rfl ?_
  intro p e s m below meth c A F hK hA hP hD
  have hS : va_S A s.heap s.heap [] := va_S.rf
  have hx := F.1.1; have hb := F.1.2.1; have hml := F.1.2.2.1; have hts := F.1.2.2.2.2
  have hown : s.vm.findClass RX6 = some m.cls := F.1.2.2.2.1
  have hl := lv_entry ([.ref h, .int a1]) (n := 5) (Nat.le_of_ble_eq_true rfl)
  rw [lg_entry_eq]
  generalize (lg_sl ([.ref h, .int a1]) ++ List.replicate (5 - (lg_sl ([.ref h, .int a1])).length) Slot.unset).toArray = ls at hl ⊢
  have hl : lv_has ls 5 [(0, .ref h), (1, .int a1)] := hl
  unfold E_loop at hE
  refine lv_iload_n hx hb dX6_loop_0 rfl (lv_at hl 1 rfl) ?_
  refine lv_iconst (v := (-1)) hx hb dX6_loop_1 (by decide) ?_
  refine lv_icmp_ne (tgt := 7) hx hb dX6_loop_2 (by decide) (fun h1 => ?_) (fun h1 => ?_)
  ·
    rw [if_neg h1] at hE
    refine lv_aload_n hx hb dX6_loop_7 rfl (lv_at hl 0 rfl) ?_
    refine lv_iconst (v := 0) hx hb dX6_loop_8 (by decide) ?_
    obtain ⟨R2, r3, hg, hE⟩ := hE
    refine kA_i (va_runV (As := [.int 0]) (rest := []) F.1 (e_peek l G h q R 0 R2 r3 hg _) (cwV 1 hts (aw_V w_1031 w_1033 ws_X6_peek w_6 w_1034) rfl rfl rfl (by decide +kernel) ⟨by decide, by decide⟩) ⟨cS_blind, va_recv (q := (RX6, TX6, 48)) (ci := 6) (q0 := 0) hK.1 hP rfl mW_0, cS_pre hP hD hK⟩ rfl rfl hl.1 rfl (lv_room (Nat.le_of_ble_eq_true rfl)) dX6_loop_9 ⟨Nat.le_refl _, Nat.le_refl _⟩) hD hS hA (fun r9 u0 H locs hp hP hD hS => ?_)
    have hp := hp.symm; subst hp
    refine lv_istore_n hx hb dX6_loop_12 rfl hl (by decide) rfl (fun ls hl => ?_)
    have hl : lv_has ls 5 [(2, .int r3), (0, .ref h), (1, .int a1)] := hl
    refine lv_iload_n hx hb dX6_loop_13 rfl (lv_at hl 0 rfl) ?_
    refine lv_bipush (v := 63) hx hb dX6_loop_14 (by decide) ?_
    refine lv_icmp_eq (tgt := 44) hx hb dX6_loop_16 (by decide) (fun h4 => ?_) (fun h4 => ?_)
    ·
      rw [if_pos h4] at hE
      refine lv_aload_n hx hb dX6_loop_44 rfl (lv_at hl 1 rfl) ?_
      refine lv_bipush (v := 15) hx hb dX6_loop_45 (by decide) ?_
      obtain ⟨R5, r6, hg, hE⟩ := hE
      refine kA_i (va_runV (As := [.int 15]) (rest := []) F.1 (e_create l G h q R2 15 R5 r6 hg _) (cwV 1 hts (aw_V w_1023 w_1025 ws_X6_create w_6 w_1026) rfl rfl rfl (by decide +kernel) ⟨by decide, by decide⟩) ⟨cS_blind, va_recv (q := (RX6, TX6, 48)) (ci := 6) (q0 := 0) hK.1 hP rfl mW_0, cS_pre hP hD hK⟩ rfl rfl hl.1 rfl (lv_room (Nat.le_of_ble_eq_true rfl)) dX6_loop_47 ⟨Nat.le_refl _, Nat.le_refl _⟩) hD hS hA (fun r9 u0 H locs hp hP hD hS => ?_)
      have hp := hp.symm; subst hp
      refine lv_istore_n hx hb dX6_loop_50 rfl hl (by decide) rfl (fun ls hl => ?_)
      have hl : lv_has ls 5 [(3, .int r6), (2, .int r3), (0, .ref h), (1, .int a1)] := hl
      refine lv_aload_n hx hb dX6_loop_51 rfl (lv_at hl 2 rfl) ?_
      refine va_get (D := G.1) (ci := 6) (C := RX6) (T := TX6) (N := 48) hx hb hts inX6 hown hK.1 hP 0 mW_0 rfl 12 (by decide) (hts _ w_858) (fun _ h9 => h9) mF_12 dX6_loop_52 ?_
      refine lv_iload_n hx hb dX6_loop_55 rfl (lv_at hl 0 rfl) ?_
      refine lv_iload_n hx hb dX6_loop_56 rfl (lv_at hl 3 rfl) ?_
      obtain ⟨hin, hE⟩ := hE
      refine va_iast (D := G.1) hx hb hK.1 hP hD hS 7 0 mW_g12 rfl hin dX6_loop_57 (fun H locs hP hD hS => ?_)
      rw [mW_a12] at hP hD
      refine lv_aload_n hx hb dX6_loop_58 rfl (lv_at hl 2 rfl) ?_
      refine va_get (D := G.1) (ci := 6) (C := RX6) (T := TX6) (N := 48) hx hb hts inX6 hown hK.1 hP 0 mW_0 rfl 9 (by decide) (hts _ w_855) (fun _ h9 => h9) mF_9 dX6_loop_59 ?_
      refine lv_iload_n hx hb dX6_loop_62 rfl (lv_at hl 0 rfl) ?_
      refine lv_iload_n hx hb dX6_loop_63 rfl (lv_at hl 1 rfl) ?_
      refine lv_bipush (v := 43) hx hb dX6_loop_64 (by decide) ?_
      refine jn_v (v := (if r3 = 43 then 1 else 0 : Int32)) (pcM := 74) (rest := [.int r6, .ref (q 9)]) (fun kM => ?_) ?_
      ·
        refine lv_icmp_ne (tgt := 73) hx hb dX6_loop_66 (by decide) (fun h8 => ?_) (fun h8 => ?_)
        ·
          refine lv_iconst (v := 0) hx hb dX6_loop_73 (by decide) ?_
          exact kM _ (by try rw [if_neg h8])
        ·
          refine lv_iconst (v := 1) hx hb dX6_loop_69 (by decide) ?_
          refine lv_goto (tgt := 74) hx hb dX6_loop_70 (by decide) ?_
          exact kM _ (by try rw [if_pos h8])
      obtain ⟨hin, hE⟩ := hE
      refine va_iast (D := G.1) hx hb hK.1 hP hD hS 4 0 mW_g9 rfl hin dX6_loop_74 (fun H locs hP hD hS => ?_)
      rw [mW_a9] at hP hD
      refine lv_aload_n hx hb dX6_loop_75 rfl (lv_at hl 2 rfl) ?_
      refine va_get (D := G.1) (ci := 6) (C := RX6) (T := TX6) (N := 48) hx hb hts inX6 hown hK.1 hP 0 mW_0 rfl 10 (by decide) (hts _ w_856) (fun _ h9 => h9) mF_10 dX6_loop_76 ?_
      refine lv_iload_n hx hb dX6_loop_79 rfl (lv_at hl 0 rfl) ?_
      refine lv_iload_n hx hb dX6_loop_80 rfl (lv_at hl 1 rfl) ?_
      refine lv_bipush (v := 63) hx hb dX6_loop_81 (by decide) ?_
      refine jn_v (v := (if r3 = 63 then 1 else (-1) : Int32)) (pcM := 91) (rest := [.int r6, .ref (q 10)]) (fun kM => ?_) ?_
      ·
        refine lv_icmp_ne (tgt := 90) hx hb dX6_loop_83 (by decide) (fun h10 => ?_) (fun h10 => ?_)
        ·
          refine lv_iconst (v := (-1)) hx hb dX6_loop_90 (by decide) ?_
          exact kM _ (by try rw [if_neg h10])
        ·
          refine lv_iconst (v := 1) hx hb dX6_loop_86 (by decide) ?_
          refine lv_goto (tgt := 91) hx hb dX6_loop_87 (by decide) ?_
          exact kM _ (by try rw [if_pos h10])
      obtain ⟨hin, hE⟩ := hE
      refine va_iast (D := G.1) hx hb hK.1 hP hD hS 5 0 mW_g10 rfl hin dX6_loop_91 (fun H locs hP hD hS => ?_)
      rw [mW_a10] at hP hD
      refine lv_aload_n hx hb dX6_loop_92 rfl (lv_at hl 2 rfl) ?_
      refine lv_dup hx hb dX6_loop_93 rfl ?_
      refine va_get (D := G.1) (ci := 6) (C := RX6) (T := TX6) (N := 48) hx hb hts inX6 hown hK.1 hP 0 mW_0 rfl 17 (by decide) (hts _ w_863) (fun _ h9 => h9) mF_17 dX6_loop_94 ?_
      refine tp_i (R5.1 17) rfl ?_
      refine lv_iconst (v := 1) hx hb dX6_loop_97 (by decide) ?_
      refine lv_iadd hx hb dX6_loop_98 ?_
      refine va_put (D := G.1) (ci := 6) (v := .int ((R5.1 17) + 1)) (ty := .int) (C := RX6) (T := TX6) (N := 48) hx hb hts inX6 tyX6 tyX6_ok nmX6 hown hK.1 hP hD hS 0 mW_0 rfl 17 (by decide) (hts _ w_863) (fun _ h9 => h9) rfl (by decide +kernel) rfl rfl mF_l17 dX6_loop_99 (fun H locs hP hD hS => ?_)
      rw [mW_f17] at hP hD
      refine lv_iload_n hx hb dX6_loop_102 rfl (lv_at hl 1 rfl) ?_
      refine lv_bipush (v := 123) hx hb dX6_loop_103 (by decide) ?_
      refine lv_icmp_ne (tgt := 118) hx hb dX6_loop_105 (by decide) (fun h11 => ?_) (fun h11 => ?_)
      ·
        rw [if_neg h11] at hE
        refine lv_aload_n hx hb dX6_loop_118 rfl (lv_at hl 2 rfl) ?_
        refine va_get (D := G.1) (ci := 6) (C := RX6) (T := TX6) (N := 48) hx hb hts inX6 hown hK.1 hP 0 mW_0 rfl 10 (by decide) (hts _ w_856) (fun _ h9 => h9) mF_10 dX6_loop_119 ?_
        refine lv_iload_n hx hb dX6_loop_122 rfl (lv_at hl 0 rfl) ?_
        obtain ⟨hin, hE⟩ := hE
        refine va_iald (D := G.1) hx hb hK.1 hP 5 0 mW_g10 rfl hin dX6_loop_123 ?_
        refine tp_i ((mf (ma (ma (ma R5 12 r6.toNatClampNeg a1) 9 r6.toNatClampNeg (if r3 = 43 then 1 else 0 : Int32)) 10 r6.toNatClampNeg (if r3 = 63 then 1 else (-1) : Int32)) 17 ((R5.1 17) + 1)).2.1 10 r6.toNatClampNeg) rfl ?_
        refine lv_iconst (v := (-1)) hx hb dX6_loop_124 (by decide) ?_
        refine lv_icmp_ne (tgt := 142) hx hb dX6_loop_125 (by decide) (fun h12 => ?_) (fun h12 => ?_)
        ·
          rw [if_neg h12] at hE
          refine lv_aload_n hx hb dX6_loop_142 rfl (lv_at hl 2 rfl) ?_
          refine lv_iconst (v := 0) hx hb dX6_loop_143 (by decide) ?_
          obtain ⟨R13, r14, hg, hE⟩ := hE
          refine kA_i (va_runV (As := [.int 0]) (rest := []) F.1 (e_peek l G h q (mf (ma (ma (ma R5 12 r6.toNatClampNeg a1) 9 r6.toNatClampNeg (if r3 = 43 then 1 else 0 : Int32)) 10 r6.toNatClampNeg (if r3 = 63 then 1 else (-1) : Int32)) 17 ((R5.1 17) + 1)) 0 R13 r14 hg _) (cwV 1 hts (aw_V w_1031 w_1033 ws_X6_peek w_6 w_1034) rfl rfl rfl (by decide +kernel) ⟨by decide, by decide⟩) ⟨cS_blind, va_recv (q := (RX6, TX6, 48)) (ci := 6) (q0 := 0) hK.1 hP rfl mW_0, cS_pre hP hD hK⟩ rfl rfl hl.1 rfl (lv_room (Nat.le_of_ble_eq_true rfl)) dX6_loop_144 ⟨Nat.le_refl _, Nat.le_refl _⟩) hD hS hA (fun r9 u0 H locs hp hP hD hS => ?_)
          have hp := hp.symm; subst hp
          refine lv_istore hx hb dX6_loop_147 hl (by decide) rfl (fun ls hl => ?_)
          have hl : lv_has ls 5 [(4, .int r14), (3, .int r6), (2, .int r3), (0, .ref h), (1, .int a1)] := hl
          refine lv_aload_n hx hb dX6_loop_149 rfl (lv_at hl 3 rfl) ?_
          refine va_get (D := G.1) (ci := 6) (C := RX6) (T := TX6) (N := 48) hx hb hts inX6 hown hK.1 hP 0 mW_0 rfl 11 (by decide) (hts _ w_857) (fun _ h9 => h9) mF_11 dX6_loop_150 ?_
          refine lv_iload_n hx hb dX6_loop_153 rfl (lv_at hl 1 rfl) ?_
          refine lv_iload hx hb dX6_loop_154 (lv_at hl 0 rfl) ?_
          refine lv_bipush (v := 63) hx hb dX6_loop_156 (by decide) ?_
          refine jn_v (v := (if r14 = 63 then 1 else (if r14 = 43 then 2 else 0 : Int32) : Int32)) (pcM := 177) (rest := [.int r6, .ref (q 11)]) (fun kM => ?_) ?_
          ·
            refine lv_icmp_ne (tgt := 165) hx hb dX6_loop_158 (by decide) (fun h16 => ?_) (fun h16 => ?_)
            ·
              refine lv_iload hx hb dX6_loop_165 (lv_at hl 0 rfl) ?_
              refine lv_bipush (v := 43) hx hb dX6_loop_167 (by decide) ?_
              refine lv_icmp_ne (tgt := 176) hx hb dX6_loop_169 (by decide) (fun h17 => ?_) (fun h17 => ?_)
              ·
                refine lv_iconst (v := 0) hx hb dX6_loop_176 (by decide) ?_
                exact kM _ (by try rw [if_neg h16]; try rw [if_neg h17])
              ·
                refine lv_iconst (v := 2) hx hb dX6_loop_172 (by decide) ?_
                refine lv_goto (tgt := 177) hx hb dX6_loop_173 (by decide) ?_
                exact kM _ (by try rw [if_neg h16]; try rw [if_pos h17])
            ·
              refine lv_iconst (v := 1) hx hb dX6_loop_161 (by decide) ?_
              refine lv_goto (tgt := 177) hx hb dX6_loop_162 (by decide) ?_
              exact kM _ (by try rw [if_pos h16])
          obtain ⟨hin, hE⟩ := hE
          refine va_iast (D := G.1) hx hb hK.1 hP hD hS 6 0 mW_g11 rfl hin dX6_loop_177 (fun H locs hP hD hS => ?_)
          rw [mW_a11] at hP hD
          refine lv_aload_n hx hb dX6_loop_178 rfl (lv_at hl 3 rfl) ?_
          refine lv_dup hx hb dX6_loop_179 rfl ?_
          refine va_get (D := G.1) (ci := 6) (C := RX6) (T := TX6) (N := 48) hx hb hts inX6 hown hK.1 hP 0 mW_0 rfl 17 (by decide) (hts _ w_863) (fun _ h9 => h9) mF_17 dX6_loop_180 ?_
          refine tp_i (R13.1 17) rfl ?_
          refine lv_aload_n hx hb dX6_loop_183 rfl (lv_at hl 3 rfl) ?_
          refine va_get (D := G.1) (ci := 6) (C := RX6) (T := TX6) (N := 48) hx hb hts inX6 hown hK.1 hP 0 mW_0 rfl 11 (by decide) (hts _ w_857) (fun _ h9 => h9) mF_11 dX6_loop_184 ?_
          refine lv_iload_n hx hb dX6_loop_187 rfl (lv_at hl 1 rfl) ?_
          obtain ⟨hin, hE⟩ := hE
          refine va_iald (D := G.1) hx hb hK.1 hP 6 0 mW_g11 rfl hin dX6_loop_188 ?_
          refine tp_i ((ma R13 11 r6.toNatClampNeg (if r14 = 63 then 1 else (if r14 = 43 then 2 else 0 : Int32) : Int32)).2.1 11 r6.toNatClampNeg) rfl ?_
          refine jn_v (v := (if ((ma R13 11 r6.toNatClampNeg (if r14 = 63 then 1 else (if r14 = 43 then 2 else 0 : Int32) : Int32)).2.1 11 r6.toNatClampNeg) = 0 then 0 else 1 : Int32)) (pcM := 197) (rest := [.int (R13.1 17), .ref h]) (fun kM => ?_) ?_
          ·
            refine lv_if_ne (tgt := 196) hx hb dX6_loop_189 (by decide) (fun h19 => ?_) (fun h19 => ?_)
            ·
              refine lv_iconst (v := 1) hx hb dX6_loop_196 (by decide) ?_
              exact kM _ (by try rw [if_neg h19])
            ·
              refine lv_iconst (v := 0) hx hb dX6_loop_192 (by decide) ?_
              refine lv_goto (tgt := 197) hx hb dX6_loop_193 (by decide) ?_
              exact kM _ (by try rw [if_pos h19])
          refine lv_iadd hx hb dX6_loop_197 ?_
          refine va_put (D := G.1) (ci := 6) (v := .int ((R13.1 17) + (if ((ma R13 11 r6.toNatClampNeg (if r14 = 63 then 1 else (if r14 = 43 then 2 else 0 : Int32) : Int32)).2.1 11 r6.toNatClampNeg) = 0 then 0 else 1 : Int32))) (ty := .int) (C := RX6) (T := TX6) (N := 48) hx hb hts inX6 tyX6 tyX6_ok nmX6 hown hK.1 hP hD hS 0 mW_0 rfl 17 (by decide) (hts _ w_863) (fun _ h9 => h9) rfl (by decide +kernel) rfl rfl mF_l17 dX6_loop_198 (fun H locs hP hD hS => ?_)
          rw [mW_f17] at hP hD
          refine lv_aload_n hx hb dX6_loop_201 rfl (lv_at hl 3 rfl) ?_
          refine lv_iload_n hx hb dX6_loop_202 rfl (lv_at hl 1 rfl) ?_
          obtain ⟨R20, hg, hE⟩ := hE
          refine kA_v (va_runV (As := [.int r6]) (rest := []) F.1 (e_append l G h q (mf (ma R13 11 r6.toNatClampNeg (if r14 = 63 then 1 else (if r14 = 43 then 2 else 0 : Int32) : Int32)) 17 ((R13.1 17) + (if ((ma R13 11 r6.toNatClampNeg (if r14 = 63 then 1 else (if r14 = 43 then 2 else 0 : Int32) : Int32)).2.1 11 r6.toNatClampNeg) = 0 then 0 else 1 : Int32))) r6 R20 0 hg _) (cwV 1 hts (aw_V w_1051 w_1053 ws_X6_append w_6 w_1054) rfl rfl rfl (by decide +kernel) ⟨by decide, by decide⟩) ⟨cS_blind, va_recv (q := (RX6, TX6, 48)) (ci := 6) (q0 := 0) hK.1 hP rfl mW_0, cS_pre hP hD hK⟩ rfl rfl hl.1 rfl (lv_room (Nat.le_of_ble_eq_true rfl)) dX6_loop_203 ⟨Nat.le_refl _, Nat.le_refl _⟩) hD hS hA (fun u0 H locs hp hP hD hS => ?_)
          refine lv_iconst (v := 1) hx hb dX6_loop_206 (by decide) ?_
          obtain ⟨rfl, rfl⟩ := hE
          exact en_i F hS _ () (by rfl) rfl hP hD (Nat.le_refl _) (Nat.le_refl _) dX6_loop_207
        ·
          rw [if_pos h12] at hE
          refine lv_aload_n hx hb dX6_loop_128 rfl (lv_at hl 2 rfl) ?_
          refine va_get (D := G.1) (ci := 6) (C := RX6) (T := TX6) (N := 48) hx hb hts inX6 hown hK.1 hP 0 mW_0 rfl 22 (by decide) (hts _ w_868) (fun _ h9 => h9) mF_22 dX6_loop_129 ?_
          refine lv_aload_n hx hb dX6_loop_132 rfl (lv_at hl 2 rfl) ?_
          refine va_get (D := G.1) (ci := 6) (C := RX6) (T := TX6) (N := 48) hx hb hts inX6 hown hK.1 hP 0 mW_0 rfl 16 (by decide) (hts _ w_862) (fun _ h9 => h9) mF_16 dX6_loop_133 ?_
          refine tp_i (R5.1 16) rfl ?_
          obtain ⟨hin, hE⟩ := hE
          refine va_zald (D := G.1) hx hb hK.1 hP 15 3 mW_g22 rfl hin dX6_loop_136 ?_
          refine tp_i (R5.2.1 22 (R5.1 16).toNatClampNeg) rfl ?_
          refine lv_if_eq (tgt := 142) hx hb dX6_loop_137 (by decide) (fun h22 => ?_) (fun h22 => ?_)
          ·
            rw [if_pos h22] at hE
            refine lv_aload_n hx hb dX6_loop_142 rfl (lv_at hl 2 rfl) ?_
            refine lv_iconst (v := 0) hx hb dX6_loop_143 (by decide) ?_
            obtain ⟨R23, r24, hg, hE⟩ := hE
            refine kA_i (va_runV (As := [.int 0]) (rest := []) F.1 (e_peek l G h q (mf (ma (ma (ma R5 12 r6.toNatClampNeg a1) 9 r6.toNatClampNeg (if r3 = 43 then 1 else 0 : Int32)) 10 r6.toNatClampNeg (if r3 = 63 then 1 else (-1) : Int32)) 17 ((R5.1 17) + 1)) 0 R23 r24 hg _) (cwV 1 hts (aw_V w_1031 w_1033 ws_X6_peek w_6 w_1034) rfl rfl rfl (by decide +kernel) ⟨by decide, by decide⟩) ⟨cS_blind, va_recv (q := (RX6, TX6, 48)) (ci := 6) (q0 := 0) hK.1 hP rfl mW_0, cS_pre hP hD hK⟩ rfl rfl hl.1 rfl (lv_room (Nat.le_of_ble_eq_true rfl)) dX6_loop_144 ⟨Nat.le_refl _, Nat.le_refl _⟩) hD hS hA (fun r9 u0 H locs hp hP hD hS => ?_)
            have hp := hp.symm; subst hp
            refine lv_istore hx hb dX6_loop_147 hl (by decide) rfl (fun ls hl => ?_)
            have hl : lv_has ls 5 [(4, .int r24), (3, .int r6), (2, .int r3), (0, .ref h), (1, .int a1)] := hl
            refine lv_aload_n hx hb dX6_loop_149 rfl (lv_at hl 3 rfl) ?_
            refine va_get (D := G.1) (ci := 6) (C := RX6) (T := TX6) (N := 48) hx hb hts inX6 hown hK.1 hP 0 mW_0 rfl 11 (by decide) (hts _ w_857) (fun _ h9 => h9) mF_11 dX6_loop_150 ?_
            refine lv_iload_n hx hb dX6_loop_153 rfl (lv_at hl 1 rfl) ?_
            refine lv_iload hx hb dX6_loop_154 (lv_at hl 0 rfl) ?_
            refine lv_bipush (v := 63) hx hb dX6_loop_156 (by decide) ?_
            refine jn_v (v := (if r24 = 63 then 1 else (if r24 = 43 then 2 else 0 : Int32) : Int32)) (pcM := 177) (rest := [.int r6, .ref (q 11)]) (fun kM => ?_) ?_
            ·
              refine lv_icmp_ne (tgt := 165) hx hb dX6_loop_158 (by decide) (fun h26 => ?_) (fun h26 => ?_)
              ·
                refine lv_iload hx hb dX6_loop_165 (lv_at hl 0 rfl) ?_
                refine lv_bipush (v := 43) hx hb dX6_loop_167 (by decide) ?_
                refine lv_icmp_ne (tgt := 176) hx hb dX6_loop_169 (by decide) (fun h27 => ?_) (fun h27 => ?_)
                ·
                  refine lv_iconst (v := 0) hx hb dX6_loop_176 (by decide) ?_
                  exact kM _ (by try rw [if_neg h26]; try rw [if_neg h27])
                ·
                  refine lv_iconst (v := 2) hx hb dX6_loop_172 (by decide) ?_
                  refine lv_goto (tgt := 177) hx hb dX6_loop_173 (by decide) ?_
                  exact kM _ (by try rw [if_neg h26]; try rw [if_pos h27])
              ·
                refine lv_iconst (v := 1) hx hb dX6_loop_161 (by decide) ?_
                refine lv_goto (tgt := 177) hx hb dX6_loop_162 (by decide) ?_
                exact kM _ (by try rw [if_pos h26])
            obtain ⟨hin, hE⟩ := hE
            refine va_iast (D := G.1) hx hb hK.1 hP hD hS 6 0 mW_g11 rfl hin dX6_loop_177 (fun H locs hP hD hS => ?_)
            rw [mW_a11] at hP hD
            refine lv_aload_n hx hb dX6_loop_178 rfl (lv_at hl 3 rfl) ?_
            refine lv_dup hx hb dX6_loop_179 rfl ?_
            refine va_get (D := G.1) (ci := 6) (C := RX6) (T := TX6) (N := 48) hx hb hts inX6 hown hK.1 hP 0 mW_0 rfl 17 (by decide) (hts _ w_863) (fun _ h9 => h9) mF_17 dX6_loop_180 ?_
            refine tp_i (R23.1 17) rfl ?_
            refine lv_aload_n hx hb dX6_loop_183 rfl (lv_at hl 3 rfl) ?_
            refine va_get (D := G.1) (ci := 6) (C := RX6) (T := TX6) (N := 48) hx hb hts inX6 hown hK.1 hP 0 mW_0 rfl 11 (by decide) (hts _ w_857) (fun _ h9 => h9) mF_11 dX6_loop_184 ?_
            refine lv_iload_n hx hb dX6_loop_187 rfl (lv_at hl 1 rfl) ?_
            obtain ⟨hin, hE⟩ := hE
            refine va_iald (D := G.1) hx hb hK.1 hP 6 0 mW_g11 rfl hin dX6_loop_188 ?_
            refine tp_i ((ma R23 11 r6.toNatClampNeg (if r24 = 63 then 1 else (if r24 = 43 then 2 else 0 : Int32) : Int32)).2.1 11 r6.toNatClampNeg) rfl ?_
            refine jn_v (v := (if ((ma R23 11 r6.toNatClampNeg (if r24 = 63 then 1 else (if r24 = 43 then 2 else 0 : Int32) : Int32)).2.1 11 r6.toNatClampNeg) = 0 then 0 else 1 : Int32)) (pcM := 197) (rest := [.int (R23.1 17), .ref h]) (fun kM => ?_) ?_
            ·
              refine lv_if_ne (tgt := 196) hx hb dX6_loop_189 (by decide) (fun h29 => ?_) (fun h29 => ?_)
              ·
                refine lv_iconst (v := 1) hx hb dX6_loop_196 (by decide) ?_
                exact kM _ (by try rw [if_neg h29])
              ·
                refine lv_iconst (v := 0) hx hb dX6_loop_192 (by decide) ?_
                refine lv_goto (tgt := 197) hx hb dX6_loop_193 (by decide) ?_
                exact kM _ (by try rw [if_pos h29])
            refine lv_iadd hx hb dX6_loop_197 ?_
            refine va_put (D := G.1) (ci := 6) (v := .int ((R23.1 17) + (if ((ma R23 11 r6.toNatClampNeg (if r24 = 63 then 1 else (if r24 = 43 then 2 else 0 : Int32) : Int32)).2.1 11 r6.toNatClampNeg) = 0 then 0 else 1 : Int32))) (ty := .int) (C := RX6) (T := TX6) (N := 48) hx hb hts inX6 tyX6 tyX6_ok nmX6 hown hK.1 hP hD hS 0 mW_0 rfl 17 (by decide) (hts _ w_863) (fun _ h9 => h9) rfl (by decide +kernel) rfl rfl mF_l17 dX6_loop_198 (fun H locs hP hD hS => ?_)
            rw [mW_f17] at hP hD
            refine lv_aload_n hx hb dX6_loop_201 rfl (lv_at hl 3 rfl) ?_
            refine lv_iload_n hx hb dX6_loop_202 rfl (lv_at hl 1 rfl) ?_
            obtain ⟨R30, hg, hE⟩ := hE
            refine kA_v (va_runV (As := [.int r6]) (rest := []) F.1 (e_append l G h q (mf (ma R23 11 r6.toNatClampNeg (if r24 = 63 then 1 else (if r24 = 43 then 2 else 0 : Int32) : Int32)) 17 ((R23.1 17) + (if ((ma R23 11 r6.toNatClampNeg (if r24 = 63 then 1 else (if r24 = 43 then 2 else 0 : Int32) : Int32)).2.1 11 r6.toNatClampNeg) = 0 then 0 else 1 : Int32))) r6 R30 0 hg _) (cwV 1 hts (aw_V w_1051 w_1053 ws_X6_append w_6 w_1054) rfl rfl rfl (by decide +kernel) ⟨by decide, by decide⟩) ⟨cS_blind, va_recv (q := (RX6, TX6, 48)) (ci := 6) (q0 := 0) hK.1 hP rfl mW_0, cS_pre hP hD hK⟩ rfl rfl hl.1 rfl (lv_room (Nat.le_of_ble_eq_true rfl)) dX6_loop_203 ⟨Nat.le_refl _, Nat.le_refl _⟩) hD hS hA (fun u0 H locs hp hP hD hS => ?_)
            refine lv_iconst (v := 1) hx hb dX6_loop_206 (by decide) ?_
            obtain ⟨rfl, rfl⟩ := hE
            exact en_i F hS _ () (by rfl) rfl hP hD (Nat.le_refl _) (Nat.le_refl _) dX6_loop_207
          ·
            rw [if_neg h22] at hE
            refine lv_iconst (v := 0) hx hb dX6_loop_140 (by decide) ?_
            obtain ⟨rfl, rfl⟩ := hE
            exact en_i F hS _ () (by rfl) rfl hP hD (Nat.le_refl _) (Nat.le_refl _) dX6_loop_141
      ·
        rw [if_pos h11] at hE
        refine lv_aload_n hx hb dX6_loop_108 rfl (lv_at hl 2 rfl) ?_
        refine lv_iload_n hx hb dX6_loop_109 rfl (lv_at hl 0 rfl) ?_
        obtain ⟨R32, r33, hg, hE⟩ := hE
        refine kA_i (va_runV (As := [.int r6]) (rest := []) F.1 (e_bounds l G h q (mf (ma (ma (ma R5 12 r6.toNatClampNeg a1) 9 r6.toNatClampNeg (if r3 = 43 then 1 else 0 : Int32)) 10 r6.toNatClampNeg (if r3 = 63 then 1 else (-1) : Int32)) 17 ((R5.1 17) + 1)) r6 R32 r33 hg _) (cwV 1 hts (aw_V w_1055 w_1057 ws_X6_bounds w_6 w_1058) rfl rfl rfl (by decide +kernel) ⟨by decide, by decide⟩) ⟨cS_blind, va_recv (q := (RX6, TX6, 48)) (ci := 6) (q0 := 0) hK.1 hP rfl mW_0, cS_pre hP hD hK⟩ rfl rfl hl.1 rfl (lv_room (Nat.le_of_ble_eq_true rfl)) dX6_loop_110 ⟨Nat.le_refl _, Nat.le_refl _⟩) hD hS hA (fun r9 u0 H locs hp hP hD hS => ?_)
        have hp := hp.symm; subst hp
        refine lv_if_ne (tgt := 118) hx hb dX6_loop_113 (by decide) (fun h34 => ?_) (fun h34 => ?_)
        ·
          rw [if_neg h34] at hE
          refine lv_aload_n hx hb dX6_loop_118 rfl (lv_at hl 2 rfl) ?_
          refine va_get (D := G.1) (ci := 6) (C := RX6) (T := TX6) (N := 48) hx hb hts inX6 hown hK.1 hP 0 mW_0 rfl 10 (by decide) (hts _ w_856) (fun _ h9 => h9) mF_10 dX6_loop_119 ?_
          refine lv_iload_n hx hb dX6_loop_122 rfl (lv_at hl 0 rfl) ?_
          obtain ⟨hin, hE⟩ := hE
          refine va_iald (D := G.1) hx hb hK.1 hP 5 0 mW_g10 rfl hin dX6_loop_123 ?_
          refine lv_iconst (v := (-1)) hx hb dX6_loop_124 (by decide) ?_
          refine lv_icmp_ne (tgt := 142) hx hb dX6_loop_125 (by decide) (fun h35 => ?_) (fun h35 => ?_)
          ·
            rw [if_neg h35] at hE
            refine lv_aload_n hx hb dX6_loop_142 rfl (lv_at hl 2 rfl) ?_
            refine lv_iconst (v := 0) hx hb dX6_loop_143 (by decide) ?_
            obtain ⟨R36, r37, hg, hE⟩ := hE
            refine kA_i (va_runV (As := [.int 0]) (rest := []) F.1 (e_peek l G h q R32 0 R36 r37 hg _) (cwV 1 hts (aw_V w_1031 w_1033 ws_X6_peek w_6 w_1034) rfl rfl rfl (by decide +kernel) ⟨by decide, by decide⟩) ⟨cS_blind, va_recv (q := (RX6, TX6, 48)) (ci := 6) (q0 := 0) hK.1 hP rfl mW_0, cS_pre hP hD hK⟩ rfl rfl hl.1 rfl (lv_room (Nat.le_of_ble_eq_true rfl)) dX6_loop_144 ⟨Nat.le_refl _, Nat.le_refl _⟩) hD hS hA (fun r9 u0 H locs hp hP hD hS => ?_)
            have hp := hp.symm; subst hp
            refine lv_istore hx hb dX6_loop_147 hl (by decide) rfl (fun ls hl => ?_)
            have hl : lv_has ls 5 [(4, .int r37), (3, .int r6), (2, .int r3), (0, .ref h), (1, .int a1)] := hl
            refine lv_aload_n hx hb dX6_loop_149 rfl (lv_at hl 3 rfl) ?_
            refine va_get (D := G.1) (ci := 6) (C := RX6) (T := TX6) (N := 48) hx hb hts inX6 hown hK.1 hP 0 mW_0 rfl 11 (by decide) (hts _ w_857) (fun _ h9 => h9) mF_11 dX6_loop_150 ?_
            refine lv_iload_n hx hb dX6_loop_153 rfl (lv_at hl 1 rfl) ?_
            refine lv_iload hx hb dX6_loop_154 (lv_at hl 0 rfl) ?_
            refine lv_bipush (v := 63) hx hb dX6_loop_156 (by decide) ?_
            refine jn_v (v := (if r37 = 63 then 1 else (if r37 = 43 then 2 else 0 : Int32) : Int32)) (pcM := 177) (rest := [.int r6, .ref (q 11)]) (fun kM => ?_) ?_
            ·
              refine lv_icmp_ne (tgt := 165) hx hb dX6_loop_158 (by decide) (fun h39 => ?_) (fun h39 => ?_)
              ·
                refine lv_iload hx hb dX6_loop_165 (lv_at hl 0 rfl) ?_
                refine lv_bipush (v := 43) hx hb dX6_loop_167 (by decide) ?_
                refine lv_icmp_ne (tgt := 176) hx hb dX6_loop_169 (by decide) (fun h40 => ?_) (fun h40 => ?_)
                ·
                  refine lv_iconst (v := 0) hx hb dX6_loop_176 (by decide) ?_
                  exact kM _ (by try rw [if_neg h39]; try rw [if_neg h40])
                ·
                  refine lv_iconst (v := 2) hx hb dX6_loop_172 (by decide) ?_
                  refine lv_goto (tgt := 177) hx hb dX6_loop_173 (by decide) ?_
                  exact kM _ (by try rw [if_neg h39]; try rw [if_pos h40])
              ·
                refine lv_iconst (v := 1) hx hb dX6_loop_161 (by decide) ?_
                refine lv_goto (tgt := 177) hx hb dX6_loop_162 (by decide) ?_
                exact kM _ (by try rw [if_pos h39])
            obtain ⟨hin, hE⟩ := hE
            refine va_iast (D := G.1) hx hb hK.1 hP hD hS 6 0 mW_g11 rfl hin dX6_loop_177 (fun H locs hP hD hS => ?_)
            rw [mW_a11] at hP hD
            refine lv_aload_n hx hb dX6_loop_178 rfl (lv_at hl 3 rfl) ?_
            refine lv_dup hx hb dX6_loop_179 rfl ?_
            refine va_get (D := G.1) (ci := 6) (C := RX6) (T := TX6) (N := 48) hx hb hts inX6 hown hK.1 hP 0 mW_0 rfl 17 (by decide) (hts _ w_863) (fun _ h9 => h9) mF_17 dX6_loop_180 ?_
            refine tp_i (R36.1 17) rfl ?_
            refine lv_aload_n hx hb dX6_loop_183 rfl (lv_at hl 3 rfl) ?_
            refine va_get (D := G.1) (ci := 6) (C := RX6) (T := TX6) (N := 48) hx hb hts inX6 hown hK.1 hP 0 mW_0 rfl 11 (by decide) (hts _ w_857) (fun _ h9 => h9) mF_11 dX6_loop_184 ?_
            refine lv_iload_n hx hb dX6_loop_187 rfl (lv_at hl 1 rfl) ?_
            obtain ⟨hin, hE⟩ := hE
            refine va_iald (D := G.1) hx hb hK.1 hP 6 0 mW_g11 rfl hin dX6_loop_188 ?_
            refine tp_i ((ma R36 11 r6.toNatClampNeg (if r37 = 63 then 1 else (if r37 = 43 then 2 else 0 : Int32) : Int32)).2.1 11 r6.toNatClampNeg) rfl ?_
            refine jn_v (v := (if ((ma R36 11 r6.toNatClampNeg (if r37 = 63 then 1 else (if r37 = 43 then 2 else 0 : Int32) : Int32)).2.1 11 r6.toNatClampNeg) = 0 then 0 else 1 : Int32)) (pcM := 197) (rest := [.int (R36.1 17), .ref h]) (fun kM => ?_) ?_
            ·
              refine lv_if_ne (tgt := 196) hx hb dX6_loop_189 (by decide) (fun h42 => ?_) (fun h42 => ?_)
              ·
                refine lv_iconst (v := 1) hx hb dX6_loop_196 (by decide) ?_
                exact kM _ (by try rw [if_neg h42])
              ·
                refine lv_iconst (v := 0) hx hb dX6_loop_192 (by decide) ?_
                refine lv_goto (tgt := 197) hx hb dX6_loop_193 (by decide) ?_
                exact kM _ (by try rw [if_pos h42])
            refine lv_iadd hx hb dX6_loop_197 ?_
            refine va_put (D := G.1) (ci := 6) (v := .int ((R36.1 17) + (if ((ma R36 11 r6.toNatClampNeg (if r37 = 63 then 1 else (if r37 = 43 then 2 else 0 : Int32) : Int32)).2.1 11 r6.toNatClampNeg) = 0 then 0 else 1 : Int32))) (ty := .int) (C := RX6) (T := TX6) (N := 48) hx hb hts inX6 tyX6 tyX6_ok nmX6 hown hK.1 hP hD hS 0 mW_0 rfl 17 (by decide) (hts _ w_863) (fun _ h9 => h9) rfl (by decide +kernel) rfl rfl mF_l17 dX6_loop_198 (fun H locs hP hD hS => ?_)
            rw [mW_f17] at hP hD
            refine lv_aload_n hx hb dX6_loop_201 rfl (lv_at hl 3 rfl) ?_
            refine lv_iload_n hx hb dX6_loop_202 rfl (lv_at hl 1 rfl) ?_
            obtain ⟨R43, hg, hE⟩ := hE
            refine kA_v (va_runV (As := [.int r6]) (rest := []) F.1 (e_append l G h q (mf (ma R36 11 r6.toNatClampNeg (if r37 = 63 then 1 else (if r37 = 43 then 2 else 0 : Int32) : Int32)) 17 ((R36.1 17) + (if ((ma R36 11 r6.toNatClampNeg (if r37 = 63 then 1 else (if r37 = 43 then 2 else 0 : Int32) : Int32)).2.1 11 r6.toNatClampNeg) = 0 then 0 else 1 : Int32))) r6 R43 0 hg _) (cwV 1 hts (aw_V w_1051 w_1053 ws_X6_append w_6 w_1054) rfl rfl rfl (by decide +kernel) ⟨by decide, by decide⟩) ⟨cS_blind, va_recv (q := (RX6, TX6, 48)) (ci := 6) (q0 := 0) hK.1 hP rfl mW_0, cS_pre hP hD hK⟩ rfl rfl hl.1 rfl (lv_room (Nat.le_of_ble_eq_true rfl)) dX6_loop_203 ⟨Nat.le_refl _, Nat.le_refl _⟩) hD hS hA (fun u0 H locs hp hP hD hS => ?_)
            refine lv_iconst (v := 1) hx hb dX6_loop_206 (by decide) ?_
            obtain ⟨rfl, rfl⟩ := hE
            exact en_i F hS _ () (by rfl) rfl hP hD (Nat.le_refl _) (Nat.le_refl _) dX6_loop_207
          ·
            rw [if_pos h35] at hE
            refine lv_aload_n hx hb dX6_loop_128 rfl (lv_at hl 2 rfl) ?_
            refine va_get (D := G.1) (ci := 6) (C := RX6) (T := TX6) (N := 48) hx hb hts inX6 hown hK.1 hP 0 mW_0 rfl 22 (by decide) (hts _ w_868) (fun _ h9 => h9) mF_22 dX6_loop_129 ?_
            refine lv_aload_n hx hb dX6_loop_132 rfl (lv_at hl 2 rfl) ?_
            refine va_get (D := G.1) (ci := 6) (C := RX6) (T := TX6) (N := 48) hx hb hts inX6 hown hK.1 hP 0 mW_0 rfl 16 (by decide) (hts _ w_862) (fun _ h9 => h9) mF_16 dX6_loop_133 ?_
            obtain ⟨hin, hE⟩ := hE
            refine va_zald (D := G.1) hx hb hK.1 hP 15 3 mW_g22 rfl hin dX6_loop_136 ?_
            refine lv_if_eq (tgt := 142) hx hb dX6_loop_137 (by decide) (fun h45 => ?_) (fun h45 => ?_)
            ·
              rw [if_pos h45] at hE
              refine lv_aload_n hx hb dX6_loop_142 rfl (lv_at hl 2 rfl) ?_
              refine lv_iconst (v := 0) hx hb dX6_loop_143 (by decide) ?_
              obtain ⟨R46, r47, hg, hE⟩ := hE
              refine kA_i (va_runV (As := [.int 0]) (rest := []) F.1 (e_peek l G h q R32 0 R46 r47 hg _) (cwV 1 hts (aw_V w_1031 w_1033 ws_X6_peek w_6 w_1034) rfl rfl rfl (by decide +kernel) ⟨by decide, by decide⟩) ⟨cS_blind, va_recv (q := (RX6, TX6, 48)) (ci := 6) (q0 := 0) hK.1 hP rfl mW_0, cS_pre hP hD hK⟩ rfl rfl hl.1 rfl (lv_room (Nat.le_of_ble_eq_true rfl)) dX6_loop_144 ⟨Nat.le_refl _, Nat.le_refl _⟩) hD hS hA (fun r9 u0 H locs hp hP hD hS => ?_)
              have hp := hp.symm; subst hp
              refine lv_istore hx hb dX6_loop_147 hl (by decide) rfl (fun ls hl => ?_)
              have hl : lv_has ls 5 [(4, .int r47), (3, .int r6), (2, .int r3), (0, .ref h), (1, .int a1)] := hl
              refine lv_aload_n hx hb dX6_loop_149 rfl (lv_at hl 3 rfl) ?_
              refine va_get (D := G.1) (ci := 6) (C := RX6) (T := TX6) (N := 48) hx hb hts inX6 hown hK.1 hP 0 mW_0 rfl 11 (by decide) (hts _ w_857) (fun _ h9 => h9) mF_11 dX6_loop_150 ?_
              refine lv_iload_n hx hb dX6_loop_153 rfl (lv_at hl 1 rfl) ?_
              refine lv_iload hx hb dX6_loop_154 (lv_at hl 0 rfl) ?_
              refine lv_bipush (v := 63) hx hb dX6_loop_156 (by decide) ?_
              refine jn_v (v := (if r47 = 63 then 1 else (if r47 = 43 then 2 else 0 : Int32) : Int32)) (pcM := 177) (rest := [.int r6, .ref (q 11)]) (fun kM => ?_) ?_
              ·
                refine lv_icmp_ne (tgt := 165) hx hb dX6_loop_158 (by decide) (fun h49 => ?_) (fun h49 => ?_)
                ·
                  refine lv_iload hx hb dX6_loop_165 (lv_at hl 0 rfl) ?_
                  refine lv_bipush (v := 43) hx hb dX6_loop_167 (by decide) ?_
                  refine lv_icmp_ne (tgt := 176) hx hb dX6_loop_169 (by decide) (fun h50 => ?_) (fun h50 => ?_)
                  ·
                    refine lv_iconst (v := 0) hx hb dX6_loop_176 (by decide) ?_
                    exact kM _ (by try rw [if_neg h49]; try rw [if_neg h50])
                  ·
                    refine lv_iconst (v := 2) hx hb dX6_loop_172 (by decide) ?_
                    refine lv_goto (tgt := 177) hx hb dX6_loop_173 (by decide) ?_
                    exact kM _ (by try rw [if_neg h49]; try rw [if_pos h50])
                ·
                  refine lv_iconst (v := 1) hx hb dX6_loop_161 (by decide) ?_
                  refine lv_goto (tgt := 177) hx hb dX6_loop_162 (by decide) ?_
                  exact kM _ (by try rw [if_pos h49])
              obtain ⟨hin, hE⟩ := hE
              refine va_iast (D := G.1) hx hb hK.1 hP hD hS 6 0 mW_g11 rfl hin dX6_loop_177 (fun H locs hP hD hS => ?_)
              rw [mW_a11] at hP hD
              refine lv_aload_n hx hb dX6_loop_178 rfl (lv_at hl 3 rfl) ?_
              refine lv_dup hx hb dX6_loop_179 rfl ?_
              refine va_get (D := G.1) (ci := 6) (C := RX6) (T := TX6) (N := 48) hx hb hts inX6 hown hK.1 hP 0 mW_0 rfl 17 (by decide) (hts _ w_863) (fun _ h9 => h9) mF_17 dX6_loop_180 ?_
              refine tp_i (R46.1 17) rfl ?_
              refine lv_aload_n hx hb dX6_loop_183 rfl (lv_at hl 3 rfl) ?_
              refine va_get (D := G.1) (ci := 6) (C := RX6) (T := TX6) (N := 48) hx hb hts inX6 hown hK.1 hP 0 mW_0 rfl 11 (by decide) (hts _ w_857) (fun _ h9 => h9) mF_11 dX6_loop_184 ?_
              refine lv_iload_n hx hb dX6_loop_187 rfl (lv_at hl 1 rfl) ?_
              obtain ⟨hin, hE⟩ := hE
              refine va_iald (D := G.1) hx hb hK.1 hP 6 0 mW_g11 rfl hin dX6_loop_188 ?_
              refine tp_i ((ma R46 11 r6.toNatClampNeg (if r47 = 63 then 1 else (if r47 = 43 then 2 else 0 : Int32) : Int32)).2.1 11 r6.toNatClampNeg) rfl ?_
              refine jn_v (v := (if ((ma R46 11 r6.toNatClampNeg (if r47 = 63 then 1 else (if r47 = 43 then 2 else 0 : Int32) : Int32)).2.1 11 r6.toNatClampNeg) = 0 then 0 else 1 : Int32)) (pcM := 197) (rest := [.int (R46.1 17), .ref h]) (fun kM => ?_) ?_
              ·
                refine lv_if_ne (tgt := 196) hx hb dX6_loop_189 (by decide) (fun h52 => ?_) (fun h52 => ?_)
                ·
                  refine lv_iconst (v := 1) hx hb dX6_loop_196 (by decide) ?_
                  exact kM _ (by try rw [if_neg h52])
                ·
                  refine lv_iconst (v := 0) hx hb dX6_loop_192 (by decide) ?_
                  refine lv_goto (tgt := 197) hx hb dX6_loop_193 (by decide) ?_
                  exact kM _ (by try rw [if_pos h52])
              refine lv_iadd hx hb dX6_loop_197 ?_
              refine va_put (D := G.1) (ci := 6) (v := .int ((R46.1 17) + (if ((ma R46 11 r6.toNatClampNeg (if r47 = 63 then 1 else (if r47 = 43 then 2 else 0 : Int32) : Int32)).2.1 11 r6.toNatClampNeg) = 0 then 0 else 1 : Int32))) (ty := .int) (C := RX6) (T := TX6) (N := 48) hx hb hts inX6 tyX6 tyX6_ok nmX6 hown hK.1 hP hD hS 0 mW_0 rfl 17 (by decide) (hts _ w_863) (fun _ h9 => h9) rfl (by decide +kernel) rfl rfl mF_l17 dX6_loop_198 (fun H locs hP hD hS => ?_)
              rw [mW_f17] at hP hD
              refine lv_aload_n hx hb dX6_loop_201 rfl (lv_at hl 3 rfl) ?_
              refine lv_iload_n hx hb dX6_loop_202 rfl (lv_at hl 1 rfl) ?_
              obtain ⟨R53, hg, hE⟩ := hE
              refine kA_v (va_runV (As := [.int r6]) (rest := []) F.1 (e_append l G h q (mf (ma R46 11 r6.toNatClampNeg (if r47 = 63 then 1 else (if r47 = 43 then 2 else 0 : Int32) : Int32)) 17 ((R46.1 17) + (if ((ma R46 11 r6.toNatClampNeg (if r47 = 63 then 1 else (if r47 = 43 then 2 else 0 : Int32) : Int32)).2.1 11 r6.toNatClampNeg) = 0 then 0 else 1 : Int32))) r6 R53 0 hg _) (cwV 1 hts (aw_V w_1051 w_1053 ws_X6_append w_6 w_1054) rfl rfl rfl (by decide +kernel) ⟨by decide, by decide⟩) ⟨cS_blind, va_recv (q := (RX6, TX6, 48)) (ci := 6) (q0 := 0) hK.1 hP rfl mW_0, cS_pre hP hD hK⟩ rfl rfl hl.1 rfl (lv_room (Nat.le_of_ble_eq_true rfl)) dX6_loop_203 ⟨Nat.le_refl _, Nat.le_refl _⟩) hD hS hA (fun u0 H locs hp hP hD hS => ?_)
              refine lv_iconst (v := 1) hx hb dX6_loop_206 (by decide) ?_
              obtain ⟨rfl, rfl⟩ := hE
              exact en_i F hS _ () (by rfl) rfl hP hD (Nat.le_refl _) (Nat.le_refl _) dX6_loop_207
            ·
              rw [if_neg h45] at hE
              refine lv_iconst (v := 0) hx hb dX6_loop_140 (by decide) ?_
              obtain ⟨rfl, rfl⟩ := hE
              exact en_i F hS _ () (by rfl) rfl hP hD (Nat.le_refl _) (Nat.le_refl _) dX6_loop_141
        ·
          rw [if_pos h34] at hE
          refine lv_iconst (v := 0) hx hb dX6_loop_116 (by decide) ?_
          obtain ⟨rfl, rfl⟩ := hE
          exact en_i F hS _ () (by rfl) rfl hP hD (Nat.le_refl _) (Nat.le_refl _) dX6_loop_117
    ·
      rw [if_neg h4] at hE
      refine lv_iload_n hx hb dX6_loop_19 rfl (lv_at hl 0 rfl) ?_
      refine lv_bipush (v := 42) hx hb dX6_loop_20 (by decide) ?_
      refine lv_icmp_eq (tgt := 44) hx hb dX6_loop_22 (by decide) (fun h55 => ?_) (fun h55 => ?_)
      ·
        rw [if_pos h55] at hE
        refine lv_aload_n hx hb dX6_loop_44 rfl (lv_at hl 1 rfl) ?_
        refine lv_bipush (v := 15) hx hb dX6_loop_45 (by decide) ?_
        obtain ⟨R56, r57, hg, hE⟩ := hE
        refine kA_i (va_runV (As := [.int 15]) (rest := []) F.1 (e_create l G h q R2 15 R56 r57 hg _) (cwV 1 hts (aw_V w_1023 w_1025 ws_X6_create w_6 w_1026) rfl rfl rfl (by decide +kernel) ⟨by decide, by decide⟩) ⟨cS_blind, va_recv (q := (RX6, TX6, 48)) (ci := 6) (q0 := 0) hK.1 hP rfl mW_0, cS_pre hP hD hK⟩ rfl rfl hl.1 rfl (lv_room (Nat.le_of_ble_eq_true rfl)) dX6_loop_47 ⟨Nat.le_refl _, Nat.le_refl _⟩) hD hS hA (fun r9 u0 H locs hp hP hD hS => ?_)
        have hp := hp.symm; subst hp
        refine lv_istore_n hx hb dX6_loop_50 rfl hl (by decide) rfl (fun ls hl => ?_)
        have hl : lv_has ls 5 [(3, .int r57), (2, .int r3), (0, .ref h), (1, .int a1)] := hl
        refine lv_aload_n hx hb dX6_loop_51 rfl (lv_at hl 2 rfl) ?_
        refine va_get (D := G.1) (ci := 6) (C := RX6) (T := TX6) (N := 48) hx hb hts inX6 hown hK.1 hP 0 mW_0 rfl 12 (by decide) (hts _ w_858) (fun _ h9 => h9) mF_12 dX6_loop_52 ?_
        refine lv_iload_n hx hb dX6_loop_55 rfl (lv_at hl 0 rfl) ?_
        refine lv_iload_n hx hb dX6_loop_56 rfl (lv_at hl 3 rfl) ?_
        obtain ⟨hin, hE⟩ := hE
        refine va_iast (D := G.1) hx hb hK.1 hP hD hS 7 0 mW_g12 rfl hin dX6_loop_57 (fun H locs hP hD hS => ?_)
        rw [mW_a12] at hP hD
        refine lv_aload_n hx hb dX6_loop_58 rfl (lv_at hl 2 rfl) ?_
        refine va_get (D := G.1) (ci := 6) (C := RX6) (T := TX6) (N := 48) hx hb hts inX6 hown hK.1 hP 0 mW_0 rfl 9 (by decide) (hts _ w_855) (fun _ h9 => h9) mF_9 dX6_loop_59 ?_
        refine lv_iload_n hx hb dX6_loop_62 rfl (lv_at hl 0 rfl) ?_
        refine lv_iload_n hx hb dX6_loop_63 rfl (lv_at hl 1 rfl) ?_
        refine lv_bipush (v := 43) hx hb dX6_loop_64 (by decide) ?_
        refine jn_v (v := (if r3 = 43 then 1 else 0 : Int32)) (pcM := 74) (rest := [.int r57, .ref (q 9)]) (fun kM => ?_) ?_
        ·
          refine lv_icmp_ne (tgt := 73) hx hb dX6_loop_66 (by decide) (fun h59 => ?_) (fun h59 => ?_)
          ·
            refine lv_iconst (v := 0) hx hb dX6_loop_73 (by decide) ?_
            exact kM _ (by try rw [if_neg h59])
          ·
            refine lv_iconst (v := 1) hx hb dX6_loop_69 (by decide) ?_
            refine lv_goto (tgt := 74) hx hb dX6_loop_70 (by decide) ?_
            exact kM _ (by try rw [if_pos h59])
        obtain ⟨hin, hE⟩ := hE
        refine va_iast (D := G.1) hx hb hK.1 hP hD hS 4 0 mW_g9 rfl hin dX6_loop_74 (fun H locs hP hD hS => ?_)
        rw [mW_a9] at hP hD
        refine lv_aload_n hx hb dX6_loop_75 rfl (lv_at hl 2 rfl) ?_
        refine va_get (D := G.1) (ci := 6) (C := RX6) (T := TX6) (N := 48) hx hb hts inX6 hown hK.1 hP 0 mW_0 rfl 10 (by decide) (hts _ w_856) (fun _ h9 => h9) mF_10 dX6_loop_76 ?_
        refine lv_iload_n hx hb dX6_loop_79 rfl (lv_at hl 0 rfl) ?_
        refine lv_iload_n hx hb dX6_loop_80 rfl (lv_at hl 1 rfl) ?_
        refine lv_bipush (v := 63) hx hb dX6_loop_81 (by decide) ?_
        refine jn_v (v := (if r3 = 63 then 1 else (-1) : Int32)) (pcM := 91) (rest := [.int r57, .ref (q 10)]) (fun kM => ?_) ?_
        ·
          refine lv_icmp_ne (tgt := 90) hx hb dX6_loop_83 (by decide) (fun h61 => ?_) (fun h61 => ?_)
          ·
            refine lv_iconst (v := (-1)) hx hb dX6_loop_90 (by decide) ?_
            exact kM _ (by try rw [if_neg h61])
          ·
            refine lv_iconst (v := 1) hx hb dX6_loop_86 (by decide) ?_
            refine lv_goto (tgt := 91) hx hb dX6_loop_87 (by decide) ?_
            exact kM _ (by try rw [if_pos h61])
        obtain ⟨hin, hE⟩ := hE
        refine va_iast (D := G.1) hx hb hK.1 hP hD hS 5 0 mW_g10 rfl hin dX6_loop_91 (fun H locs hP hD hS => ?_)
        rw [mW_a10] at hP hD
        refine lv_aload_n hx hb dX6_loop_92 rfl (lv_at hl 2 rfl) ?_
        refine lv_dup hx hb dX6_loop_93 rfl ?_
        refine va_get (D := G.1) (ci := 6) (C := RX6) (T := TX6) (N := 48) hx hb hts inX6 hown hK.1 hP 0 mW_0 rfl 17 (by decide) (hts _ w_863) (fun _ h9 => h9) mF_17 dX6_loop_94 ?_
        refine tp_i (R56.1 17) rfl ?_
        refine lv_iconst (v := 1) hx hb dX6_loop_97 (by decide) ?_
        refine lv_iadd hx hb dX6_loop_98 ?_
        refine va_put (D := G.1) (ci := 6) (v := .int ((R56.1 17) + 1)) (ty := .int) (C := RX6) (T := TX6) (N := 48) hx hb hts inX6 tyX6 tyX6_ok nmX6 hown hK.1 hP hD hS 0 mW_0 rfl 17 (by decide) (hts _ w_863) (fun _ h9 => h9) rfl (by decide +kernel) rfl rfl mF_l17 dX6_loop_99 (fun H locs hP hD hS => ?_)
        rw [mW_f17] at hP hD
        refine lv_iload_n hx hb dX6_loop_102 rfl (lv_at hl 1 rfl) ?_
        refine lv_bipush (v := 123) hx hb dX6_loop_103 (by decide) ?_
        refine lv_icmp_ne (tgt := 118) hx hb dX6_loop_105 (by decide) (fun h62 => ?_) (fun h62 => ?_)
        ·
          rw [if_neg h62] at hE
          refine lv_aload_n hx hb dX6_loop_118 rfl (lv_at hl 2 rfl) ?_
          refine va_get (D := G.1) (ci := 6) (C := RX6) (T := TX6) (N := 48) hx hb hts inX6 hown hK.1 hP 0 mW_0 rfl 10 (by decide) (hts _ w_856) (fun _ h9 => h9) mF_10 dX6_loop_119 ?_
          refine lv_iload_n hx hb dX6_loop_122 rfl (lv_at hl 0 rfl) ?_
          obtain ⟨hin, hE⟩ := hE
          refine va_iald (D := G.1) hx hb hK.1 hP 5 0 mW_g10 rfl hin dX6_loop_123 ?_
          refine tp_i ((mf (ma (ma (ma R56 12 r57.toNatClampNeg a1) 9 r57.toNatClampNeg (if r3 = 43 then 1 else 0 : Int32)) 10 r57.toNatClampNeg (if r3 = 63 then 1 else (-1) : Int32)) 17 ((R56.1 17) + 1)).2.1 10 r57.toNatClampNeg) rfl ?_
          refine lv_iconst (v := (-1)) hx hb dX6_loop_124 (by decide) ?_
          refine lv_icmp_ne (tgt := 142) hx hb dX6_loop_125 (by decide) (fun h63 => ?_) (fun h63 => ?_)
          ·
            rw [if_neg h63] at hE
            refine lv_aload_n hx hb dX6_loop_142 rfl (lv_at hl 2 rfl) ?_
            refine lv_iconst (v := 0) hx hb dX6_loop_143 (by decide) ?_
            obtain ⟨R64, r65, hg, hE⟩ := hE
            refine kA_i (va_runV (As := [.int 0]) (rest := []) F.1 (e_peek l G h q (mf (ma (ma (ma R56 12 r57.toNatClampNeg a1) 9 r57.toNatClampNeg (if r3 = 43 then 1 else 0 : Int32)) 10 r57.toNatClampNeg (if r3 = 63 then 1 else (-1) : Int32)) 17 ((R56.1 17) + 1)) 0 R64 r65 hg _) (cwV 1 hts (aw_V w_1031 w_1033 ws_X6_peek w_6 w_1034) rfl rfl rfl (by decide +kernel) ⟨by decide, by decide⟩) ⟨cS_blind, va_recv (q := (RX6, TX6, 48)) (ci := 6) (q0 := 0) hK.1 hP rfl mW_0, cS_pre hP hD hK⟩ rfl rfl hl.1 rfl (lv_room (Nat.le_of_ble_eq_true rfl)) dX6_loop_144 ⟨Nat.le_refl _, Nat.le_refl _⟩) hD hS hA (fun r9 u0 H locs hp hP hD hS => ?_)
            have hp := hp.symm; subst hp
            refine lv_istore hx hb dX6_loop_147 hl (by decide) rfl (fun ls hl => ?_)
            have hl : lv_has ls 5 [(4, .int r65), (3, .int r57), (2, .int r3), (0, .ref h), (1, .int a1)] := hl
            refine lv_aload_n hx hb dX6_loop_149 rfl (lv_at hl 3 rfl) ?_
            refine va_get (D := G.1) (ci := 6) (C := RX6) (T := TX6) (N := 48) hx hb hts inX6 hown hK.1 hP 0 mW_0 rfl 11 (by decide) (hts _ w_857) (fun _ h9 => h9) mF_11 dX6_loop_150 ?_
            refine lv_iload_n hx hb dX6_loop_153 rfl (lv_at hl 1 rfl) ?_
            refine lv_iload hx hb dX6_loop_154 (lv_at hl 0 rfl) ?_
            refine lv_bipush (v := 63) hx hb dX6_loop_156 (by decide) ?_
            refine jn_v (v := (if r65 = 63 then 1 else (if r65 = 43 then 2 else 0 : Int32) : Int32)) (pcM := 177) (rest := [.int r57, .ref (q 11)]) (fun kM => ?_) ?_
            ·
              refine lv_icmp_ne (tgt := 165) hx hb dX6_loop_158 (by decide) (fun h67 => ?_) (fun h67 => ?_)
              ·
                refine lv_iload hx hb dX6_loop_165 (lv_at hl 0 rfl) ?_
                refine lv_bipush (v := 43) hx hb dX6_loop_167 (by decide) ?_
                refine lv_icmp_ne (tgt := 176) hx hb dX6_loop_169 (by decide) (fun h68 => ?_) (fun h68 => ?_)
                ·
                  refine lv_iconst (v := 0) hx hb dX6_loop_176 (by decide) ?_
                  exact kM _ (by try rw [if_neg h67]; try rw [if_neg h68])
                ·
                  refine lv_iconst (v := 2) hx hb dX6_loop_172 (by decide) ?_
                  refine lv_goto (tgt := 177) hx hb dX6_loop_173 (by decide) ?_
                  exact kM _ (by try rw [if_neg h67]; try rw [if_pos h68])
              ·
                refine lv_iconst (v := 1) hx hb dX6_loop_161 (by decide) ?_
                refine lv_goto (tgt := 177) hx hb dX6_loop_162 (by decide) ?_
                exact kM _ (by try rw [if_pos h67])
            obtain ⟨hin, hE⟩ := hE
            refine va_iast (D := G.1) hx hb hK.1 hP hD hS 6 0 mW_g11 rfl hin dX6_loop_177 (fun H locs hP hD hS => ?_)
            rw [mW_a11] at hP hD
            refine lv_aload_n hx hb dX6_loop_178 rfl (lv_at hl 3 rfl) ?_
            refine lv_dup hx hb dX6_loop_179 rfl ?_
            refine va_get (D := G.1) (ci := 6) (C := RX6) (T := TX6) (N := 48) hx hb hts inX6 hown hK.1 hP 0 mW_0 rfl 17 (by decide) (hts _ w_863) (fun _ h9 => h9) mF_17 dX6_loop_180 ?_
            refine tp_i (R64.1 17) rfl ?_
            refine lv_aload_n hx hb dX6_loop_183 rfl (lv_at hl 3 rfl) ?_
            refine va_get (D := G.1) (ci := 6) (C := RX6) (T := TX6) (N := 48) hx hb hts inX6 hown hK.1 hP 0 mW_0 rfl 11 (by decide) (hts _ w_857) (fun _ h9 => h9) mF_11 dX6_loop_184 ?_
            refine lv_iload_n hx hb dX6_loop_187 rfl (lv_at hl 1 rfl) ?_
            obtain ⟨hin, hE⟩ := hE
            refine va_iald (D := G.1) hx hb hK.1 hP 6 0 mW_g11 rfl hin dX6_loop_188 ?_
            refine tp_i ((ma R64 11 r57.toNatClampNeg (if r65 = 63 then 1 else (if r65 = 43 then 2 else 0 : Int32) : Int32)).2.1 11 r57.toNatClampNeg) rfl ?_
            refine jn_v (v := (if ((ma R64 11 r57.toNatClampNeg (if r65 = 63 then 1 else (if r65 = 43 then 2 else 0 : Int32) : Int32)).2.1 11 r57.toNatClampNeg) = 0 then 0 else 1 : Int32)) (pcM := 197) (rest := [.int (R64.1 17), .ref h]) (fun kM => ?_) ?_
            ·
              refine lv_if_ne (tgt := 196) hx hb dX6_loop_189 (by decide) (fun h70 => ?_) (fun h70 => ?_)
              ·
                refine lv_iconst (v := 1) hx hb dX6_loop_196 (by decide) ?_
                exact kM _ (by try rw [if_neg h70])
              ·
                refine lv_iconst (v := 0) hx hb dX6_loop_192 (by decide) ?_
                refine lv_goto (tgt := 197) hx hb dX6_loop_193 (by decide) ?_
                exact kM _ (by try rw [if_pos h70])
            refine lv_iadd hx hb dX6_loop_197 ?_
            refine va_put (D := G.1) (ci := 6) (v := .int ((R64.1 17) + (if ((ma R64 11 r57.toNatClampNeg (if r65 = 63 then 1 else (if r65 = 43 then 2 else 0 : Int32) : Int32)).2.1 11 r57.toNatClampNeg) = 0 then 0 else 1 : Int32))) (ty := .int) (C := RX6) (T := TX6) (N := 48) hx hb hts inX6 tyX6 tyX6_ok nmX6 hown hK.1 hP hD hS 0 mW_0 rfl 17 (by decide) (hts _ w_863) (fun _ h9 => h9) rfl (by decide +kernel) rfl rfl mF_l17 dX6_loop_198 (fun H locs hP hD hS => ?_)
            rw [mW_f17] at hP hD
            refine lv_aload_n hx hb dX6_loop_201 rfl (lv_at hl 3 rfl) ?_
            refine lv_iload_n hx hb dX6_loop_202 rfl (lv_at hl 1 rfl) ?_
            obtain ⟨R71, hg, hE⟩ := hE
            refine kA_v (va_runV (As := [.int r57]) (rest := []) F.1 (e_append l G h q (mf (ma R64 11 r57.toNatClampNeg (if r65 = 63 then 1 else (if r65 = 43 then 2 else 0 : Int32) : Int32)) 17 ((R64.1 17) + (if ((ma R64 11 r57.toNatClampNeg (if r65 = 63 then 1 else (if r65 = 43 then 2 else 0 : Int32) : Int32)).2.1 11 r57.toNatClampNeg) = 0 then 0 else 1 : Int32))) r57 R71 0 hg _) (cwV 1 hts (aw_V w_1051 w_1053 ws_X6_append w_6 w_1054) rfl rfl rfl (by decide +kernel) ⟨by decide, by decide⟩) ⟨cS_blind, va_recv (q := (RX6, TX6, 48)) (ci := 6) (q0 := 0) hK.1 hP rfl mW_0, cS_pre hP hD hK⟩ rfl rfl hl.1 rfl (lv_room (Nat.le_of_ble_eq_true rfl)) dX6_loop_203 ⟨Nat.le_refl _, Nat.le_refl _⟩) hD hS hA (fun u0 H locs hp hP hD hS => ?_)
            refine lv_iconst (v := 1) hx hb dX6_loop_206 (by decide) ?_
            obtain ⟨rfl, rfl⟩ := hE
            exact en_i F hS _ () (by rfl) rfl hP hD (Nat.le_refl _) (Nat.le_refl _) dX6_loop_207
          ·
            rw [if_pos h63] at hE
            refine lv_aload_n hx hb dX6_loop_128 rfl (lv_at hl 2 rfl) ?_
            refine va_get (D := G.1) (ci := 6) (C := RX6) (T := TX6) (N := 48) hx hb hts inX6 hown hK.1 hP 0 mW_0 rfl 22 (by decide) (hts _ w_868) (fun _ h9 => h9) mF_22 dX6_loop_129 ?_
            refine lv_aload_n hx hb dX6_loop_132 rfl (lv_at hl 2 rfl) ?_
            refine va_get (D := G.1) (ci := 6) (C := RX6) (T := TX6) (N := 48) hx hb hts inX6 hown hK.1 hP 0 mW_0 rfl 16 (by decide) (hts _ w_862) (fun _ h9 => h9) mF_16 dX6_loop_133 ?_
            refine tp_i (R56.1 16) rfl ?_
            obtain ⟨hin, hE⟩ := hE
            refine va_zald (D := G.1) hx hb hK.1 hP 15 3 mW_g22 rfl hin dX6_loop_136 ?_
            refine tp_i (R56.2.1 22 (R56.1 16).toNatClampNeg) rfl ?_
            refine lv_if_eq (tgt := 142) hx hb dX6_loop_137 (by decide) (fun h73 => ?_) (fun h73 => ?_)
            ·
              rw [if_pos h73] at hE
              refine lv_aload_n hx hb dX6_loop_142 rfl (lv_at hl 2 rfl) ?_
              refine lv_iconst (v := 0) hx hb dX6_loop_143 (by decide) ?_
              obtain ⟨R74, r75, hg, hE⟩ := hE
              refine kA_i (va_runV (As := [.int 0]) (rest := []) F.1 (e_peek l G h q (mf (ma (ma (ma R56 12 r57.toNatClampNeg a1) 9 r57.toNatClampNeg (if r3 = 43 then 1 else 0 : Int32)) 10 r57.toNatClampNeg (if r3 = 63 then 1 else (-1) : Int32)) 17 ((R56.1 17) + 1)) 0 R74 r75 hg _) (cwV 1 hts (aw_V w_1031 w_1033 ws_X6_peek w_6 w_1034) rfl rfl rfl (by decide +kernel) ⟨by decide, by decide⟩) ⟨cS_blind, va_recv (q := (RX6, TX6, 48)) (ci := 6) (q0 := 0) hK.1 hP rfl mW_0, cS_pre hP hD hK⟩ rfl rfl hl.1 rfl (lv_room (Nat.le_of_ble_eq_true rfl)) dX6_loop_144 ⟨Nat.le_refl _, Nat.le_refl _⟩) hD hS hA (fun r9 u0 H locs hp hP hD hS => ?_)
              have hp := hp.symm; subst hp
              refine lv_istore hx hb dX6_loop_147 hl (by decide) rfl (fun ls hl => ?_)
              have hl : lv_has ls 5 [(4, .int r75), (3, .int r57), (2, .int r3), (0, .ref h), (1, .int a1)] := hl
              refine lv_aload_n hx hb dX6_loop_149 rfl (lv_at hl 3 rfl) ?_
              refine va_get (D := G.1) (ci := 6) (C := RX6) (T := TX6) (N := 48) hx hb hts inX6 hown hK.1 hP 0 mW_0 rfl 11 (by decide) (hts _ w_857) (fun _ h9 => h9) mF_11 dX6_loop_150 ?_
              refine lv_iload_n hx hb dX6_loop_153 rfl (lv_at hl 1 rfl) ?_
              refine lv_iload hx hb dX6_loop_154 (lv_at hl 0 rfl) ?_
              refine lv_bipush (v := 63) hx hb dX6_loop_156 (by decide) ?_
              refine jn_v (v := (if r75 = 63 then 1 else (if r75 = 43 then 2 else 0 : Int32) : Int32)) (pcM := 177) (rest := [.int r57, .ref (q 11)]) (fun kM => ?_) ?_
              ·
                refine lv_icmp_ne (tgt := 165) hx hb dX6_loop_158 (by decide) (fun h77 => ?_) (fun h77 => ?_)
                ·
                  refine lv_iload hx hb dX6_loop_165 (lv_at hl 0 rfl) ?_
                  refine lv_bipush (v := 43) hx hb dX6_loop_167 (by decide) ?_
                  refine lv_icmp_ne (tgt := 176) hx hb dX6_loop_169 (by decide) (fun h78 => ?_) (fun h78 => ?_)
                  ·
                    refine lv_iconst (v := 0) hx hb dX6_loop_176 (by decide) ?_
                    exact kM _ (by try rw [if_neg h77]; try rw [if_neg h78])
                  ·
                    refine lv_iconst (v := 2) hx hb dX6_loop_172 (by decide) ?_
                    refine lv_goto (tgt := 177) hx hb dX6_loop_173 (by decide) ?_
                    exact kM _ (by try rw [if_neg h77]; try rw [if_pos h78])
                ·
                  refine lv_iconst (v := 1) hx hb dX6_loop_161 (by decide) ?_
                  refine lv_goto (tgt := 177) hx hb dX6_loop_162 (by decide) ?_
                  exact kM _ (by try rw [if_pos h77])
              obtain ⟨hin, hE⟩ := hE
              refine va_iast (D := G.1) hx hb hK.1 hP hD hS 6 0 mW_g11 rfl hin dX6_loop_177 (fun H locs hP hD hS => ?_)
              rw [mW_a11] at hP hD
              refine lv_aload_n hx hb dX6_loop_178 rfl (lv_at hl 3 rfl) ?_
              refine lv_dup hx hb dX6_loop_179 rfl ?_
              refine va_get (D := G.1) (ci := 6) (C := RX6) (T := TX6) (N := 48) hx hb hts inX6 hown hK.1 hP 0 mW_0 rfl 17 (by decide) (hts _ w_863) (fun _ h9 => h9) mF_17 dX6_loop_180 ?_
              refine tp_i (R74.1 17) rfl ?_
              refine lv_aload_n hx hb dX6_loop_183 rfl (lv_at hl 3 rfl) ?_
              refine va_get (D := G.1) (ci := 6) (C := RX6) (T := TX6) (N := 48) hx hb hts inX6 hown hK.1 hP 0 mW_0 rfl 11 (by decide) (hts _ w_857) (fun _ h9 => h9) mF_11 dX6_loop_184 ?_
              refine lv_iload_n hx hb dX6_loop_187 rfl (lv_at hl 1 rfl) ?_
              obtain ⟨hin, hE⟩ := hE
              refine va_iald (D := G.1) hx hb hK.1 hP 6 0 mW_g11 rfl hin dX6_loop_188 ?_
              refine tp_i ((ma R74 11 r57.toNatClampNeg (if r75 = 63 then 1 else (if r75 = 43 then 2 else 0 : Int32) : Int32)).2.1 11 r57.toNatClampNeg) rfl ?_
              refine jn_v (v := (if ((ma R74 11 r57.toNatClampNeg (if r75 = 63 then 1 else (if r75 = 43 then 2 else 0 : Int32) : Int32)).2.1 11 r57.toNatClampNeg) = 0 then 0 else 1 : Int32)) (pcM := 197) (rest := [.int (R74.1 17), .ref h]) (fun kM => ?_) ?_
              ·
                refine lv_if_ne (tgt := 196) hx hb dX6_loop_189 (by decide) (fun h80 => ?_) (fun h80 => ?_)
                ·
                  refine lv_iconst (v := 1) hx hb dX6_loop_196 (by decide) ?_
                  exact kM _ (by try rw [if_neg h80])
                ·
                  refine lv_iconst (v := 0) hx hb dX6_loop_192 (by decide) ?_
                  refine lv_goto (tgt := 197) hx hb dX6_loop_193 (by decide) ?_
                  exact kM _ (by try rw [if_pos h80])
              refine lv_iadd hx hb dX6_loop_197 ?_
              refine va_put (D := G.1) (ci := 6) (v := .int ((R74.1 17) + (if ((ma R74 11 r57.toNatClampNeg (if r75 = 63 then 1 else (if r75 = 43 then 2 else 0 : Int32) : Int32)).2.1 11 r57.toNatClampNeg) = 0 then 0 else 1 : Int32))) (ty := .int) (C := RX6) (T := TX6) (N := 48) hx hb hts inX6 tyX6 tyX6_ok nmX6 hown hK.1 hP hD hS 0 mW_0 rfl 17 (by decide) (hts _ w_863) (fun _ h9 => h9) rfl (by decide +kernel) rfl rfl mF_l17 dX6_loop_198 (fun H locs hP hD hS => ?_)
              rw [mW_f17] at hP hD
              refine lv_aload_n hx hb dX6_loop_201 rfl (lv_at hl 3 rfl) ?_
              refine lv_iload_n hx hb dX6_loop_202 rfl (lv_at hl 1 rfl) ?_
              obtain ⟨R81, hg, hE⟩ := hE
              refine kA_v (va_runV (As := [.int r57]) (rest := []) F.1 (e_append l G h q (mf (ma R74 11 r57.toNatClampNeg (if r75 = 63 then 1 else (if r75 = 43 then 2 else 0 : Int32) : Int32)) 17 ((R74.1 17) + (if ((ma R74 11 r57.toNatClampNeg (if r75 = 63 then 1 else (if r75 = 43 then 2 else 0 : Int32) : Int32)).2.1 11 r57.toNatClampNeg) = 0 then 0 else 1 : Int32))) r57 R81 0 hg _) (cwV 1 hts (aw_V w_1051 w_1053 ws_X6_append w_6 w_1054) rfl rfl rfl (by decide +kernel) ⟨by decide, by decide⟩) ⟨cS_blind, va_recv (q := (RX6, TX6, 48)) (ci := 6) (q0 := 0) hK.1 hP rfl mW_0, cS_pre hP hD hK⟩ rfl rfl hl.1 rfl (lv_room (Nat.le_of_ble_eq_true rfl)) dX6_loop_203 ⟨Nat.le_refl _, Nat.le_refl _⟩) hD hS hA (fun u0 H locs hp hP hD hS => ?_)
              refine lv_iconst (v := 1) hx hb dX6_loop_206 (by decide) ?_
              obtain ⟨rfl, rfl⟩ := hE
              exact en_i F hS _ () (by rfl) rfl hP hD (Nat.le_refl _) (Nat.le_refl _) dX6_loop_207
            ·
              rw [if_neg h73] at hE
              refine lv_iconst (v := 0) hx hb dX6_loop_140 (by decide) ?_
              obtain ⟨rfl, rfl⟩ := hE
              exact en_i F hS _ () (by rfl) rfl hP hD (Nat.le_refl _) (Nat.le_refl _) dX6_loop_141
        ·
          rw [if_pos h62] at hE
          refine lv_aload_n hx hb dX6_loop_108 rfl (lv_at hl 2 rfl) ?_
          refine lv_iload_n hx hb dX6_loop_109 rfl (lv_at hl 0 rfl) ?_
          obtain ⟨R83, r84, hg, hE⟩ := hE
          refine kA_i (va_runV (As := [.int r57]) (rest := []) F.1 (e_bounds l G h q (mf (ma (ma (ma R56 12 r57.toNatClampNeg a1) 9 r57.toNatClampNeg (if r3 = 43 then 1 else 0 : Int32)) 10 r57.toNatClampNeg (if r3 = 63 then 1 else (-1) : Int32)) 17 ((R56.1 17) + 1)) r57 R83 r84 hg _) (cwV 1 hts (aw_V w_1055 w_1057 ws_X6_bounds w_6 w_1058) rfl rfl rfl (by decide +kernel) ⟨by decide, by decide⟩) ⟨cS_blind, va_recv (q := (RX6, TX6, 48)) (ci := 6) (q0 := 0) hK.1 hP rfl mW_0, cS_pre hP hD hK⟩ rfl rfl hl.1 rfl (lv_room (Nat.le_of_ble_eq_true rfl)) dX6_loop_110 ⟨Nat.le_refl _, Nat.le_refl _⟩) hD hS hA (fun r9 u0 H locs hp hP hD hS => ?_)
          have hp := hp.symm; subst hp
          refine lv_if_ne (tgt := 118) hx hb dX6_loop_113 (by decide) (fun h85 => ?_) (fun h85 => ?_)
          ·
            rw [if_neg h85] at hE
            refine lv_aload_n hx hb dX6_loop_118 rfl (lv_at hl 2 rfl) ?_
            refine va_get (D := G.1) (ci := 6) (C := RX6) (T := TX6) (N := 48) hx hb hts inX6 hown hK.1 hP 0 mW_0 rfl 10 (by decide) (hts _ w_856) (fun _ h9 => h9) mF_10 dX6_loop_119 ?_
            refine lv_iload_n hx hb dX6_loop_122 rfl (lv_at hl 0 rfl) ?_
            obtain ⟨hin, hE⟩ := hE
            refine va_iald (D := G.1) hx hb hK.1 hP 5 0 mW_g10 rfl hin dX6_loop_123 ?_
            refine lv_iconst (v := (-1)) hx hb dX6_loop_124 (by decide) ?_
            refine lv_icmp_ne (tgt := 142) hx hb dX6_loop_125 (by decide) (fun h86 => ?_) (fun h86 => ?_)
            ·
              rw [if_neg h86] at hE
              refine lv_aload_n hx hb dX6_loop_142 rfl (lv_at hl 2 rfl) ?_
              refine lv_iconst (v := 0) hx hb dX6_loop_143 (by decide) ?_
              obtain ⟨R87, r88, hg, hE⟩ := hE
              refine kA_i (va_runV (As := [.int 0]) (rest := []) F.1 (e_peek l G h q R83 0 R87 r88 hg _) (cwV 1 hts (aw_V w_1031 w_1033 ws_X6_peek w_6 w_1034) rfl rfl rfl (by decide +kernel) ⟨by decide, by decide⟩) ⟨cS_blind, va_recv (q := (RX6, TX6, 48)) (ci := 6) (q0 := 0) hK.1 hP rfl mW_0, cS_pre hP hD hK⟩ rfl rfl hl.1 rfl (lv_room (Nat.le_of_ble_eq_true rfl)) dX6_loop_144 ⟨Nat.le_refl _, Nat.le_refl _⟩) hD hS hA (fun r9 u0 H locs hp hP hD hS => ?_)
              have hp := hp.symm; subst hp
              refine lv_istore hx hb dX6_loop_147 hl (by decide) rfl (fun ls hl => ?_)
              have hl : lv_has ls 5 [(4, .int r88), (3, .int r57), (2, .int r3), (0, .ref h), (1, .int a1)] := hl
              refine lv_aload_n hx hb dX6_loop_149 rfl (lv_at hl 3 rfl) ?_
              refine va_get (D := G.1) (ci := 6) (C := RX6) (T := TX6) (N := 48) hx hb hts inX6 hown hK.1 hP 0 mW_0 rfl 11 (by decide) (hts _ w_857) (fun _ h9 => h9) mF_11 dX6_loop_150 ?_
              refine lv_iload_n hx hb dX6_loop_153 rfl (lv_at hl 1 rfl) ?_
              refine lv_iload hx hb dX6_loop_154 (lv_at hl 0 rfl) ?_
              refine lv_bipush (v := 63) hx hb dX6_loop_156 (by decide) ?_
              refine jn_v (v := (if r88 = 63 then 1 else (if r88 = 43 then 2 else 0 : Int32) : Int32)) (pcM := 177) (rest := [.int r57, .ref (q 11)]) (fun kM => ?_) ?_
              ·
                refine lv_icmp_ne (tgt := 165) hx hb dX6_loop_158 (by decide) (fun h90 => ?_) (fun h90 => ?_)
                ·
                  refine lv_iload hx hb dX6_loop_165 (lv_at hl 0 rfl) ?_
                  refine lv_bipush (v := 43) hx hb dX6_loop_167 (by decide) ?_
                  refine lv_icmp_ne (tgt := 176) hx hb dX6_loop_169 (by decide) (fun h91 => ?_) (fun h91 => ?_)
                  ·
                    refine lv_iconst (v := 0) hx hb dX6_loop_176 (by decide) ?_
                    exact kM _ (by try rw [if_neg h90]; try rw [if_neg h91])
                  ·
                    refine lv_iconst (v := 2) hx hb dX6_loop_172 (by decide) ?_
                    refine lv_goto (tgt := 177) hx hb dX6_loop_173 (by decide) ?_
                    exact kM _ (by try rw [if_neg h90]; try rw [if_pos h91])
                ·
                  refine lv_iconst (v := 1) hx hb dX6_loop_161 (by decide) ?_
                  refine lv_goto (tgt := 177) hx hb dX6_loop_162 (by decide) ?_
                  exact kM _ (by try rw [if_pos h90])
              obtain ⟨hin, hE⟩ := hE
              refine va_iast (D := G.1) hx hb hK.1 hP hD hS 6 0 mW_g11 rfl hin dX6_loop_177 (fun H locs hP hD hS => ?_)
              rw [mW_a11] at hP hD
              refine lv_aload_n hx hb dX6_loop_178 rfl (lv_at hl 3 rfl) ?_
              refine lv_dup hx hb dX6_loop_179 rfl ?_
              refine va_get (D := G.1) (ci := 6) (C := RX6) (T := TX6) (N := 48) hx hb hts inX6 hown hK.1 hP 0 mW_0 rfl 17 (by decide) (hts _ w_863) (fun _ h9 => h9) mF_17 dX6_loop_180 ?_
              refine tp_i (R87.1 17) rfl ?_
              refine lv_aload_n hx hb dX6_loop_183 rfl (lv_at hl 3 rfl) ?_
              refine va_get (D := G.1) (ci := 6) (C := RX6) (T := TX6) (N := 48) hx hb hts inX6 hown hK.1 hP 0 mW_0 rfl 11 (by decide) (hts _ w_857) (fun _ h9 => h9) mF_11 dX6_loop_184 ?_
              refine lv_iload_n hx hb dX6_loop_187 rfl (lv_at hl 1 rfl) ?_
              obtain ⟨hin, hE⟩ := hE
              refine va_iald (D := G.1) hx hb hK.1 hP 6 0 mW_g11 rfl hin dX6_loop_188 ?_
              refine tp_i ((ma R87 11 r57.toNatClampNeg (if r88 = 63 then 1 else (if r88 = 43 then 2 else 0 : Int32) : Int32)).2.1 11 r57.toNatClampNeg) rfl ?_
              refine jn_v (v := (if ((ma R87 11 r57.toNatClampNeg (if r88 = 63 then 1 else (if r88 = 43 then 2 else 0 : Int32) : Int32)).2.1 11 r57.toNatClampNeg) = 0 then 0 else 1 : Int32)) (pcM := 197) (rest := [.int (R87.1 17), .ref h]) (fun kM => ?_) ?_
              ·
                refine lv_if_ne (tgt := 196) hx hb dX6_loop_189 (by decide) (fun h93 => ?_) (fun h93 => ?_)
                ·
                  refine lv_iconst (v := 1) hx hb dX6_loop_196 (by decide) ?_
                  exact kM _ (by try rw [if_neg h93])
                ·
                  refine lv_iconst (v := 0) hx hb dX6_loop_192 (by decide) ?_
                  refine lv_goto (tgt := 197) hx hb dX6_loop_193 (by decide) ?_
                  exact kM _ (by try rw [if_pos h93])
              refine lv_iadd hx hb dX6_loop_197 ?_
              refine va_put (D := G.1) (ci := 6) (v := .int ((R87.1 17) + (if ((ma R87 11 r57.toNatClampNeg (if r88 = 63 then 1 else (if r88 = 43 then 2 else 0 : Int32) : Int32)).2.1 11 r57.toNatClampNeg) = 0 then 0 else 1 : Int32))) (ty := .int) (C := RX6) (T := TX6) (N := 48) hx hb hts inX6 tyX6 tyX6_ok nmX6 hown hK.1 hP hD hS 0 mW_0 rfl 17 (by decide) (hts _ w_863) (fun _ h9 => h9) rfl (by decide +kernel) rfl rfl mF_l17 dX6_loop_198 (fun H locs hP hD hS => ?_)
              rw [mW_f17] at hP hD
              refine lv_aload_n hx hb dX6_loop_201 rfl (lv_at hl 3 rfl) ?_
              refine lv_iload_n hx hb dX6_loop_202 rfl (lv_at hl 1 rfl) ?_
              obtain ⟨R94, hg, hE⟩ := hE
              refine kA_v (va_runV (As := [.int r57]) (rest := []) F.1 (e_append l G h q (mf (ma R87 11 r57.toNatClampNeg (if r88 = 63 then 1 else (if r88 = 43 then 2 else 0 : Int32) : Int32)) 17 ((R87.1 17) + (if ((ma R87 11 r57.toNatClampNeg (if r88 = 63 then 1 else (if r88 = 43 then 2 else 0 : Int32) : Int32)).2.1 11 r57.toNatClampNeg) = 0 then 0 else 1 : Int32))) r57 R94 0 hg _) (cwV 1 hts (aw_V w_1051 w_1053 ws_X6_append w_6 w_1054) rfl rfl rfl (by decide +kernel) ⟨by decide, by decide⟩) ⟨cS_blind, va_recv (q := (RX6, TX6, 48)) (ci := 6) (q0 := 0) hK.1 hP rfl mW_0, cS_pre hP hD hK⟩ rfl rfl hl.1 rfl (lv_room (Nat.le_of_ble_eq_true rfl)) dX6_loop_203 ⟨Nat.le_refl _, Nat.le_refl _⟩) hD hS hA (fun u0 H locs hp hP hD hS => ?_)
              refine lv_iconst (v := 1) hx hb dX6_loop_206 (by decide) ?_
              obtain ⟨rfl, rfl⟩ := hE
              exact en_i F hS _ () (by rfl) rfl hP hD (Nat.le_refl _) (Nat.le_refl _) dX6_loop_207
            ·
              rw [if_pos h86] at hE
              refine lv_aload_n hx hb dX6_loop_128 rfl (lv_at hl 2 rfl) ?_
              refine va_get (D := G.1) (ci := 6) (C := RX6) (T := TX6) (N := 48) hx hb hts inX6 hown hK.1 hP 0 mW_0 rfl 22 (by decide) (hts _ w_868) (fun _ h9 => h9) mF_22 dX6_loop_129 ?_
              refine lv_aload_n hx hb dX6_loop_132 rfl (lv_at hl 2 rfl) ?_
              refine va_get (D := G.1) (ci := 6) (C := RX6) (T := TX6) (N := 48) hx hb hts inX6 hown hK.1 hP 0 mW_0 rfl 16 (by decide) (hts _ w_862) (fun _ h9 => h9) mF_16 dX6_loop_133 ?_
              obtain ⟨hin, hE⟩ := hE
              refine va_zald (D := G.1) hx hb hK.1 hP 15 3 mW_g22 rfl hin dX6_loop_136 ?_
              refine lv_if_eq (tgt := 142) hx hb dX6_loop_137 (by decide) (fun h96 => ?_) (fun h96 => ?_)
              ·
                rw [if_pos h96] at hE
                refine lv_aload_n hx hb dX6_loop_142 rfl (lv_at hl 2 rfl) ?_
                refine lv_iconst (v := 0) hx hb dX6_loop_143 (by decide) ?_
                obtain ⟨R97, r98, hg, hE⟩ := hE
                refine kA_i (va_runV (As := [.int 0]) (rest := []) F.1 (e_peek l G h q R83 0 R97 r98 hg _) (cwV 1 hts (aw_V w_1031 w_1033 ws_X6_peek w_6 w_1034) rfl rfl rfl (by decide +kernel) ⟨by decide, by decide⟩) ⟨cS_blind, va_recv (q := (RX6, TX6, 48)) (ci := 6) (q0 := 0) hK.1 hP rfl mW_0, cS_pre hP hD hK⟩ rfl rfl hl.1 rfl (lv_room (Nat.le_of_ble_eq_true rfl)) dX6_loop_144 ⟨Nat.le_refl _, Nat.le_refl _⟩) hD hS hA (fun r9 u0 H locs hp hP hD hS => ?_)
                have hp := hp.symm; subst hp
                refine lv_istore hx hb dX6_loop_147 hl (by decide) rfl (fun ls hl => ?_)
                have hl : lv_has ls 5 [(4, .int r98), (3, .int r57), (2, .int r3), (0, .ref h), (1, .int a1)] := hl
                refine lv_aload_n hx hb dX6_loop_149 rfl (lv_at hl 3 rfl) ?_
                refine va_get (D := G.1) (ci := 6) (C := RX6) (T := TX6) (N := 48) hx hb hts inX6 hown hK.1 hP 0 mW_0 rfl 11 (by decide) (hts _ w_857) (fun _ h9 => h9) mF_11 dX6_loop_150 ?_
                refine lv_iload_n hx hb dX6_loop_153 rfl (lv_at hl 1 rfl) ?_
                refine lv_iload hx hb dX6_loop_154 (lv_at hl 0 rfl) ?_
                refine lv_bipush (v := 63) hx hb dX6_loop_156 (by decide) ?_
                refine jn_v (v := (if r98 = 63 then 1 else (if r98 = 43 then 2 else 0 : Int32) : Int32)) (pcM := 177) (rest := [.int r57, .ref (q 11)]) (fun kM => ?_) ?_
                ·
                  refine lv_icmp_ne (tgt := 165) hx hb dX6_loop_158 (by decide) (fun h100 => ?_) (fun h100 => ?_)
                  ·
                    refine lv_iload hx hb dX6_loop_165 (lv_at hl 0 rfl) ?_
                    refine lv_bipush (v := 43) hx hb dX6_loop_167 (by decide) ?_
                    refine lv_icmp_ne (tgt := 176) hx hb dX6_loop_169 (by decide) (fun h101 => ?_) (fun h101 => ?_)
                    ·
                      refine lv_iconst (v := 0) hx hb dX6_loop_176 (by decide) ?_
                      exact kM _ (by try rw [if_neg h100]; try rw [if_neg h101])
                    ·
                      refine lv_iconst (v := 2) hx hb dX6_loop_172 (by decide) ?_
                      refine lv_goto (tgt := 177) hx hb dX6_loop_173 (by decide) ?_
                      exact kM _ (by try rw [if_neg h100]; try rw [if_pos h101])
                  ·
                    refine lv_iconst (v := 1) hx hb dX6_loop_161 (by decide) ?_
                    refine lv_goto (tgt := 177) hx hb dX6_loop_162 (by decide) ?_
                    exact kM _ (by try rw [if_pos h100])
                obtain ⟨hin, hE⟩ := hE
                refine va_iast (D := G.1) hx hb hK.1 hP hD hS 6 0 mW_g11 rfl hin dX6_loop_177 (fun H locs hP hD hS => ?_)
                rw [mW_a11] at hP hD
                refine lv_aload_n hx hb dX6_loop_178 rfl (lv_at hl 3 rfl) ?_
                refine lv_dup hx hb dX6_loop_179 rfl ?_
                refine va_get (D := G.1) (ci := 6) (C := RX6) (T := TX6) (N := 48) hx hb hts inX6 hown hK.1 hP 0 mW_0 rfl 17 (by decide) (hts _ w_863) (fun _ h9 => h9) mF_17 dX6_loop_180 ?_
                refine tp_i (R97.1 17) rfl ?_
                refine lv_aload_n hx hb dX6_loop_183 rfl (lv_at hl 3 rfl) ?_
                refine va_get (D := G.1) (ci := 6) (C := RX6) (T := TX6) (N := 48) hx hb hts inX6 hown hK.1 hP 0 mW_0 rfl 11 (by decide) (hts _ w_857) (fun _ h9 => h9) mF_11 dX6_loop_184 ?_
                refine lv_iload_n hx hb dX6_loop_187 rfl (lv_at hl 1 rfl) ?_
                obtain ⟨hin, hE⟩ := hE
                refine va_iald (D := G.1) hx hb hK.1 hP 6 0 mW_g11 rfl hin dX6_loop_188 ?_
                refine tp_i ((ma R97 11 r57.toNatClampNeg (if r98 = 63 then 1 else (if r98 = 43 then 2 else 0 : Int32) : Int32)).2.1 11 r57.toNatClampNeg) rfl ?_
                refine jn_v (v := (if ((ma R97 11 r57.toNatClampNeg (if r98 = 63 then 1 else (if r98 = 43 then 2 else 0 : Int32) : Int32)).2.1 11 r57.toNatClampNeg) = 0 then 0 else 1 : Int32)) (pcM := 197) (rest := [.int (R97.1 17), .ref h]) (fun kM => ?_) ?_
                ·
                  refine lv_if_ne (tgt := 196) hx hb dX6_loop_189 (by decide) (fun h103 => ?_) (fun h103 => ?_)
                  ·
                    refine lv_iconst (v := 1) hx hb dX6_loop_196 (by decide) ?_
                    exact kM _ (by try rw [if_neg h103])
                  ·
                    refine lv_iconst (v := 0) hx hb dX6_loop_192 (by decide) ?_
                    refine lv_goto (tgt := 197) hx hb dX6_loop_193 (by decide) ?_
                    exact kM _ (by try rw [if_pos h103])
                refine lv_iadd hx hb dX6_loop_197 ?_
                refine va_put (D := G.1) (ci := 6) (v := .int ((R97.1 17) + (if ((ma R97 11 r57.toNatClampNeg (if r98 = 63 then 1 else (if r98 = 43 then 2 else 0 : Int32) : Int32)).2.1 11 r57.toNatClampNeg) = 0 then 0 else 1 : Int32))) (ty := .int) (C := RX6) (T := TX6) (N := 48) hx hb hts inX6 tyX6 tyX6_ok nmX6 hown hK.1 hP hD hS 0 mW_0 rfl 17 (by decide) (hts _ w_863) (fun _ h9 => h9) rfl (by decide +kernel) rfl rfl mF_l17 dX6_loop_198 (fun H locs hP hD hS => ?_)
                rw [mW_f17] at hP hD
                refine lv_aload_n hx hb dX6_loop_201 rfl (lv_at hl 3 rfl) ?_
                refine lv_iload_n hx hb dX6_loop_202 rfl (lv_at hl 1 rfl) ?_
                obtain ⟨R104, hg, hE⟩ := hE
                refine kA_v (va_runV (As := [.int r57]) (rest := []) F.1 (e_append l G h q (mf (ma R97 11 r57.toNatClampNeg (if r98 = 63 then 1 else (if r98 = 43 then 2 else 0 : Int32) : Int32)) 17 ((R97.1 17) + (if ((ma R97 11 r57.toNatClampNeg (if r98 = 63 then 1 else (if r98 = 43 then 2 else 0 : Int32) : Int32)).2.1 11 r57.toNatClampNeg) = 0 then 0 else 1 : Int32))) r57 R104 0 hg _) (cwV 1 hts (aw_V w_1051 w_1053 ws_X6_append w_6 w_1054) rfl rfl rfl (by decide +kernel) ⟨by decide, by decide⟩) ⟨cS_blind, va_recv (q := (RX6, TX6, 48)) (ci := 6) (q0 := 0) hK.1 hP rfl mW_0, cS_pre hP hD hK⟩ rfl rfl hl.1 rfl (lv_room (Nat.le_of_ble_eq_true rfl)) dX6_loop_203 ⟨Nat.le_refl _, Nat.le_refl _⟩) hD hS hA (fun u0 H locs hp hP hD hS => ?_)
                refine lv_iconst (v := 1) hx hb dX6_loop_206 (by decide) ?_
                obtain ⟨rfl, rfl⟩ := hE
                exact en_i F hS _ () (by rfl) rfl hP hD (Nat.le_refl _) (Nat.le_refl _) dX6_loop_207
              ·
                rw [if_neg h96] at hE
                refine lv_iconst (v := 0) hx hb dX6_loop_140 (by decide) ?_
                obtain ⟨rfl, rfl⟩ := hE
                exact en_i F hS _ () (by rfl) rfl hP hD (Nat.le_refl _) (Nat.le_refl _) dX6_loop_141
          ·
            rw [if_pos h85] at hE
            refine lv_iconst (v := 0) hx hb dX6_loop_116 (by decide) ?_
            obtain ⟨rfl, rfl⟩ := hE
            exact en_i F hS _ () (by rfl) rfl hP hD (Nat.le_refl _) (Nat.le_refl _) dX6_loop_117
      ·
        rw [if_neg h55] at hE
        refine lv_iload_n hx hb dX6_loop_25 rfl (lv_at hl 0 rfl) ?_
        refine lv_bipush (v := 43) hx hb dX6_loop_26 (by decide) ?_
        refine lv_icmp_eq (tgt := 44) hx hb dX6_loop_28 (by decide) (fun h106 => ?_) (fun h106 => ?_)
        ·
          rw [if_pos h106] at hE
          refine lv_aload_n hx hb dX6_loop_44 rfl (lv_at hl 1 rfl) ?_
          refine lv_bipush (v := 15) hx hb dX6_loop_45 (by decide) ?_
          obtain ⟨R107, r108, hg, hE⟩ := hE
          refine kA_i (va_runV (As := [.int 15]) (rest := []) F.1 (e_create l G h q R2 15 R107 r108 hg _) (cwV 1 hts (aw_V w_1023 w_1025 ws_X6_create w_6 w_1026) rfl rfl rfl (by decide +kernel) ⟨by decide, by decide⟩) ⟨cS_blind, va_recv (q := (RX6, TX6, 48)) (ci := 6) (q0 := 0) hK.1 hP rfl mW_0, cS_pre hP hD hK⟩ rfl rfl hl.1 rfl (lv_room (Nat.le_of_ble_eq_true rfl)) dX6_loop_47 ⟨Nat.le_refl _, Nat.le_refl _⟩) hD hS hA (fun r9 u0 H locs hp hP hD hS => ?_)
          have hp := hp.symm; subst hp
          refine lv_istore_n hx hb dX6_loop_50 rfl hl (by decide) rfl (fun ls hl => ?_)
          have hl : lv_has ls 5 [(3, .int r108), (2, .int r3), (0, .ref h), (1, .int a1)] := hl
          refine lv_aload_n hx hb dX6_loop_51 rfl (lv_at hl 2 rfl) ?_
          refine va_get (D := G.1) (ci := 6) (C := RX6) (T := TX6) (N := 48) hx hb hts inX6 hown hK.1 hP 0 mW_0 rfl 12 (by decide) (hts _ w_858) (fun _ h9 => h9) mF_12 dX6_loop_52 ?_
          refine lv_iload_n hx hb dX6_loop_55 rfl (lv_at hl 0 rfl) ?_
          refine lv_iload_n hx hb dX6_loop_56 rfl (lv_at hl 3 rfl) ?_
          obtain ⟨hin, hE⟩ := hE
          refine va_iast (D := G.1) hx hb hK.1 hP hD hS 7 0 mW_g12 rfl hin dX6_loop_57 (fun H locs hP hD hS => ?_)
          rw [mW_a12] at hP hD
          refine lv_aload_n hx hb dX6_loop_58 rfl (lv_at hl 2 rfl) ?_
          refine va_get (D := G.1) (ci := 6) (C := RX6) (T := TX6) (N := 48) hx hb hts inX6 hown hK.1 hP 0 mW_0 rfl 9 (by decide) (hts _ w_855) (fun _ h9 => h9) mF_9 dX6_loop_59 ?_
          refine lv_iload_n hx hb dX6_loop_62 rfl (lv_at hl 0 rfl) ?_
          refine lv_iload_n hx hb dX6_loop_63 rfl (lv_at hl 1 rfl) ?_
          refine lv_bipush (v := 43) hx hb dX6_loop_64 (by decide) ?_
          refine jn_v (v := (if r3 = 43 then 1 else 0 : Int32)) (pcM := 74) (rest := [.int r108, .ref (q 9)]) (fun kM => ?_) ?_
          ·
            refine lv_icmp_ne (tgt := 73) hx hb dX6_loop_66 (by decide) (fun h110 => ?_) (fun h110 => ?_)
            ·
              refine lv_iconst (v := 0) hx hb dX6_loop_73 (by decide) ?_
              exact kM _ (by try rw [if_neg h110])
            ·
              refine lv_iconst (v := 1) hx hb dX6_loop_69 (by decide) ?_
              refine lv_goto (tgt := 74) hx hb dX6_loop_70 (by decide) ?_
              exact kM _ (by try rw [if_pos h110])
          obtain ⟨hin, hE⟩ := hE
          refine va_iast (D := G.1) hx hb hK.1 hP hD hS 4 0 mW_g9 rfl hin dX6_loop_74 (fun H locs hP hD hS => ?_)
          rw [mW_a9] at hP hD
          refine lv_aload_n hx hb dX6_loop_75 rfl (lv_at hl 2 rfl) ?_
          refine va_get (D := G.1) (ci := 6) (C := RX6) (T := TX6) (N := 48) hx hb hts inX6 hown hK.1 hP 0 mW_0 rfl 10 (by decide) (hts _ w_856) (fun _ h9 => h9) mF_10 dX6_loop_76 ?_
          refine lv_iload_n hx hb dX6_loop_79 rfl (lv_at hl 0 rfl) ?_
          refine lv_iload_n hx hb dX6_loop_80 rfl (lv_at hl 1 rfl) ?_
          refine lv_bipush (v := 63) hx hb dX6_loop_81 (by decide) ?_
          refine jn_v (v := (if r3 = 63 then 1 else (-1) : Int32)) (pcM := 91) (rest := [.int r108, .ref (q 10)]) (fun kM => ?_) ?_
          ·
            refine lv_icmp_ne (tgt := 90) hx hb dX6_loop_83 (by decide) (fun h112 => ?_) (fun h112 => ?_)
            ·
              refine lv_iconst (v := (-1)) hx hb dX6_loop_90 (by decide) ?_
              exact kM _ (by try rw [if_neg h112])
            ·
              refine lv_iconst (v := 1) hx hb dX6_loop_86 (by decide) ?_
              refine lv_goto (tgt := 91) hx hb dX6_loop_87 (by decide) ?_
              exact kM _ (by try rw [if_pos h112])
          obtain ⟨hin, hE⟩ := hE
          refine va_iast (D := G.1) hx hb hK.1 hP hD hS 5 0 mW_g10 rfl hin dX6_loop_91 (fun H locs hP hD hS => ?_)
          rw [mW_a10] at hP hD
          refine lv_aload_n hx hb dX6_loop_92 rfl (lv_at hl 2 rfl) ?_
          refine lv_dup hx hb dX6_loop_93 rfl ?_
          refine va_get (D := G.1) (ci := 6) (C := RX6) (T := TX6) (N := 48) hx hb hts inX6 hown hK.1 hP 0 mW_0 rfl 17 (by decide) (hts _ w_863) (fun _ h9 => h9) mF_17 dX6_loop_94 ?_
          refine tp_i (R107.1 17) rfl ?_
          refine lv_iconst (v := 1) hx hb dX6_loop_97 (by decide) ?_
          refine lv_iadd hx hb dX6_loop_98 ?_
          refine va_put (D := G.1) (ci := 6) (v := .int ((R107.1 17) + 1)) (ty := .int) (C := RX6) (T := TX6) (N := 48) hx hb hts inX6 tyX6 tyX6_ok nmX6 hown hK.1 hP hD hS 0 mW_0 rfl 17 (by decide) (hts _ w_863) (fun _ h9 => h9) rfl (by decide +kernel) rfl rfl mF_l17 dX6_loop_99 (fun H locs hP hD hS => ?_)
          rw [mW_f17] at hP hD
          refine lv_iload_n hx hb dX6_loop_102 rfl (lv_at hl 1 rfl) ?_
          refine lv_bipush (v := 123) hx hb dX6_loop_103 (by decide) ?_
          refine lv_icmp_ne (tgt := 118) hx hb dX6_loop_105 (by decide) (fun h113 => ?_) (fun h113 => ?_)
          ·
            rw [if_neg h113] at hE
            refine lv_aload_n hx hb dX6_loop_118 rfl (lv_at hl 2 rfl) ?_
            refine va_get (D := G.1) (ci := 6) (C := RX6) (T := TX6) (N := 48) hx hb hts inX6 hown hK.1 hP 0 mW_0 rfl 10 (by decide) (hts _ w_856) (fun _ h9 => h9) mF_10 dX6_loop_119 ?_
            refine lv_iload_n hx hb dX6_loop_122 rfl (lv_at hl 0 rfl) ?_
            obtain ⟨hin, hE⟩ := hE
            refine va_iald (D := G.1) hx hb hK.1 hP 5 0 mW_g10 rfl hin dX6_loop_123 ?_
            refine tp_i ((mf (ma (ma (ma R107 12 r108.toNatClampNeg a1) 9 r108.toNatClampNeg (if r3 = 43 then 1 else 0 : Int32)) 10 r108.toNatClampNeg (if r3 = 63 then 1 else (-1) : Int32)) 17 ((R107.1 17) + 1)).2.1 10 r108.toNatClampNeg) rfl ?_
            refine lv_iconst (v := (-1)) hx hb dX6_loop_124 (by decide) ?_
            refine lv_icmp_ne (tgt := 142) hx hb dX6_loop_125 (by decide) (fun h114 => ?_) (fun h114 => ?_)
            ·
              rw [if_neg h114] at hE
              refine lv_aload_n hx hb dX6_loop_142 rfl (lv_at hl 2 rfl) ?_
              refine lv_iconst (v := 0) hx hb dX6_loop_143 (by decide) ?_
              obtain ⟨R115, r116, hg, hE⟩ := hE
              refine kA_i (va_runV (As := [.int 0]) (rest := []) F.1 (e_peek l G h q (mf (ma (ma (ma R107 12 r108.toNatClampNeg a1) 9 r108.toNatClampNeg (if r3 = 43 then 1 else 0 : Int32)) 10 r108.toNatClampNeg (if r3 = 63 then 1 else (-1) : Int32)) 17 ((R107.1 17) + 1)) 0 R115 r116 hg _) (cwV 1 hts (aw_V w_1031 w_1033 ws_X6_peek w_6 w_1034) rfl rfl rfl (by decide +kernel) ⟨by decide, by decide⟩) ⟨cS_blind, va_recv (q := (RX6, TX6, 48)) (ci := 6) (q0 := 0) hK.1 hP rfl mW_0, cS_pre hP hD hK⟩ rfl rfl hl.1 rfl (lv_room (Nat.le_of_ble_eq_true rfl)) dX6_loop_144 ⟨Nat.le_refl _, Nat.le_refl _⟩) hD hS hA (fun r9 u0 H locs hp hP hD hS => ?_)
              have hp := hp.symm; subst hp
              refine lv_istore hx hb dX6_loop_147 hl (by decide) rfl (fun ls hl => ?_)
              have hl : lv_has ls 5 [(4, .int r116), (3, .int r108), (2, .int r3), (0, .ref h), (1, .int a1)] := hl
              refine lv_aload_n hx hb dX6_loop_149 rfl (lv_at hl 3 rfl) ?_
              refine va_get (D := G.1) (ci := 6) (C := RX6) (T := TX6) (N := 48) hx hb hts inX6 hown hK.1 hP 0 mW_0 rfl 11 (by decide) (hts _ w_857) (fun _ h9 => h9) mF_11 dX6_loop_150 ?_
              refine lv_iload_n hx hb dX6_loop_153 rfl (lv_at hl 1 rfl) ?_
              refine lv_iload hx hb dX6_loop_154 (lv_at hl 0 rfl) ?_
              refine lv_bipush (v := 63) hx hb dX6_loop_156 (by decide) ?_
              refine jn_v (v := (if r116 = 63 then 1 else (if r116 = 43 then 2 else 0 : Int32) : Int32)) (pcM := 177) (rest := [.int r108, .ref (q 11)]) (fun kM => ?_) ?_
              ·
                refine lv_icmp_ne (tgt := 165) hx hb dX6_loop_158 (by decide) (fun h118 => ?_) (fun h118 => ?_)
                ·
                  refine lv_iload hx hb dX6_loop_165 (lv_at hl 0 rfl) ?_
                  refine lv_bipush (v := 43) hx hb dX6_loop_167 (by decide) ?_
                  refine lv_icmp_ne (tgt := 176) hx hb dX6_loop_169 (by decide) (fun h119 => ?_) (fun h119 => ?_)
                  ·
                    refine lv_iconst (v := 0) hx hb dX6_loop_176 (by decide) ?_
                    exact kM _ (by try rw [if_neg h118]; try rw [if_neg h119])
                  ·
                    refine lv_iconst (v := 2) hx hb dX6_loop_172 (by decide) ?_
                    refine lv_goto (tgt := 177) hx hb dX6_loop_173 (by decide) ?_
                    exact kM _ (by try rw [if_neg h118]; try rw [if_pos h119])
                ·
                  refine lv_iconst (v := 1) hx hb dX6_loop_161 (by decide) ?_
                  refine lv_goto (tgt := 177) hx hb dX6_loop_162 (by decide) ?_
                  exact kM _ (by try rw [if_pos h118])
              obtain ⟨hin, hE⟩ := hE
              refine va_iast (D := G.1) hx hb hK.1 hP hD hS 6 0 mW_g11 rfl hin dX6_loop_177 (fun H locs hP hD hS => ?_)
              rw [mW_a11] at hP hD
              refine lv_aload_n hx hb dX6_loop_178 rfl (lv_at hl 3 rfl) ?_
              refine lv_dup hx hb dX6_loop_179 rfl ?_
              refine va_get (D := G.1) (ci := 6) (C := RX6) (T := TX6) (N := 48) hx hb hts inX6 hown hK.1 hP 0 mW_0 rfl 17 (by decide) (hts _ w_863) (fun _ h9 => h9) mF_17 dX6_loop_180 ?_
              refine tp_i (R115.1 17) rfl ?_
              refine lv_aload_n hx hb dX6_loop_183 rfl (lv_at hl 3 rfl) ?_
              refine va_get (D := G.1) (ci := 6) (C := RX6) (T := TX6) (N := 48) hx hb hts inX6 hown hK.1 hP 0 mW_0 rfl 11 (by decide) (hts _ w_857) (fun _ h9 => h9) mF_11 dX6_loop_184 ?_
              refine lv_iload_n hx hb dX6_loop_187 rfl (lv_at hl 1 rfl) ?_
              obtain ⟨hin, hE⟩ := hE
              refine va_iald (D := G.1) hx hb hK.1 hP 6 0 mW_g11 rfl hin dX6_loop_188 ?_
              refine tp_i ((ma R115 11 r108.toNatClampNeg (if r116 = 63 then 1 else (if r116 = 43 then 2 else 0 : Int32) : Int32)).2.1 11 r108.toNatClampNeg) rfl ?_
              refine jn_v (v := (if ((ma R115 11 r108.toNatClampNeg (if r116 = 63 then 1 else (if r116 = 43 then 2 else 0 : Int32) : Int32)).2.1 11 r108.toNatClampNeg) = 0 then 0 else 1 : Int32)) (pcM := 197) (rest := [.int (R115.1 17), .ref h]) (fun kM => ?_) ?_
              ·
                refine lv_if_ne (tgt := 196) hx hb dX6_loop_189 (by decide) (fun h121 => ?_) (fun h121 => ?_)
                ·
                  refine lv_iconst (v := 1) hx hb dX6_loop_196 (by decide) ?_
                  exact kM _ (by try rw [if_neg h121])
                ·
                  refine lv_iconst (v := 0) hx hb dX6_loop_192 (by decide) ?_
                  refine lv_goto (tgt := 197) hx hb dX6_loop_193 (by decide) ?_
                  exact kM _ (by try rw [if_pos h121])
              refine lv_iadd hx hb dX6_loop_197 ?_
              refine va_put (D := G.1) (ci := 6) (v := .int ((R115.1 17) + (if ((ma R115 11 r108.toNatClampNeg (if r116 = 63 then 1 else (if r116 = 43 then 2 else 0 : Int32) : Int32)).2.1 11 r108.toNatClampNeg) = 0 then 0 else 1 : Int32))) (ty := .int) (C := RX6) (T := TX6) (N := 48) hx hb hts inX6 tyX6 tyX6_ok nmX6 hown hK.1 hP hD hS 0 mW_0 rfl 17 (by decide) (hts _ w_863) (fun _ h9 => h9) rfl (by decide +kernel) rfl rfl mF_l17 dX6_loop_198 (fun H locs hP hD hS => ?_)
              rw [mW_f17] at hP hD
              refine lv_aload_n hx hb dX6_loop_201 rfl (lv_at hl 3 rfl) ?_
              refine lv_iload_n hx hb dX6_loop_202 rfl (lv_at hl 1 rfl) ?_
              obtain ⟨R122, hg, hE⟩ := hE
              refine kA_v (va_runV (As := [.int r108]) (rest := []) F.1 (e_append l G h q (mf (ma R115 11 r108.toNatClampNeg (if r116 = 63 then 1 else (if r116 = 43 then 2 else 0 : Int32) : Int32)) 17 ((R115.1 17) + (if ((ma R115 11 r108.toNatClampNeg (if r116 = 63 then 1 else (if r116 = 43 then 2 else 0 : Int32) : Int32)).2.1 11 r108.toNatClampNeg) = 0 then 0 else 1 : Int32))) r108 R122 0 hg _) (cwV 1 hts (aw_V w_1051 w_1053 ws_X6_append w_6 w_1054) rfl rfl rfl (by decide +kernel) ⟨by decide, by decide⟩) ⟨cS_blind, va_recv (q := (RX6, TX6, 48)) (ci := 6) (q0 := 0) hK.1 hP rfl mW_0, cS_pre hP hD hK⟩ rfl rfl hl.1 rfl (lv_room (Nat.le_of_ble_eq_true rfl)) dX6_loop_203 ⟨Nat.le_refl _, Nat.le_refl _⟩) hD hS hA (fun u0 H locs hp hP hD hS => ?_)
              refine lv_iconst (v := 1) hx hb dX6_loop_206 (by decide) ?_
              obtain ⟨rfl, rfl⟩ := hE
              exact en_i F hS _ () (by rfl) rfl hP hD (Nat.le_refl _) (Nat.le_refl _) dX6_loop_207
            ·
              rw [if_pos h114] at hE
              refine lv_aload_n hx hb dX6_loop_128 rfl (lv_at hl 2 rfl) ?_
              refine va_get (D := G.1) (ci := 6) (C := RX6) (T := TX6) (N := 48) hx hb hts inX6 hown hK.1 hP 0 mW_0 rfl 22 (by decide) (hts _ w_868) (fun _ h9 => h9) mF_22 dX6_loop_129 ?_
              refine lv_aload_n hx hb dX6_loop_132 rfl (lv_at hl 2 rfl) ?_
              refine va_get (D := G.1) (ci := 6) (C := RX6) (T := TX6) (N := 48) hx hb hts inX6 hown hK.1 hP 0 mW_0 rfl 16 (by decide) (hts _ w_862) (fun _ h9 => h9) mF_16 dX6_loop_133 ?_
              refine tp_i (R107.1 16) rfl ?_
              obtain ⟨hin, hE⟩ := hE
              refine va_zald (D := G.1) hx hb hK.1 hP 15 3 mW_g22 rfl hin dX6_loop_136 ?_
              refine tp_i (R107.2.1 22 (R107.1 16).toNatClampNeg) rfl ?_
              refine lv_if_eq (tgt := 142) hx hb dX6_loop_137 (by decide) (fun h124 => ?_) (fun h124 => ?_)
              ·
                rw [if_pos h124] at hE
                refine lv_aload_n hx hb dX6_loop_142 rfl (lv_at hl 2 rfl) ?_
                refine lv_iconst (v := 0) hx hb dX6_loop_143 (by decide) ?_
                obtain ⟨R125, r126, hg, hE⟩ := hE
                refine kA_i (va_runV (As := [.int 0]) (rest := []) F.1 (e_peek l G h q (mf (ma (ma (ma R107 12 r108.toNatClampNeg a1) 9 r108.toNatClampNeg (if r3 = 43 then 1 else 0 : Int32)) 10 r108.toNatClampNeg (if r3 = 63 then 1 else (-1) : Int32)) 17 ((R107.1 17) + 1)) 0 R125 r126 hg _) (cwV 1 hts (aw_V w_1031 w_1033 ws_X6_peek w_6 w_1034) rfl rfl rfl (by decide +kernel) ⟨by decide, by decide⟩) ⟨cS_blind, va_recv (q := (RX6, TX6, 48)) (ci := 6) (q0 := 0) hK.1 hP rfl mW_0, cS_pre hP hD hK⟩ rfl rfl hl.1 rfl (lv_room (Nat.le_of_ble_eq_true rfl)) dX6_loop_144 ⟨Nat.le_refl _, Nat.le_refl _⟩) hD hS hA (fun r9 u0 H locs hp hP hD hS => ?_)
                have hp := hp.symm; subst hp
                refine lv_istore hx hb dX6_loop_147 hl (by decide) rfl (fun ls hl => ?_)
                have hl : lv_has ls 5 [(4, .int r126), (3, .int r108), (2, .int r3), (0, .ref h), (1, .int a1)] := hl
                refine lv_aload_n hx hb dX6_loop_149 rfl (lv_at hl 3 rfl) ?_
                refine va_get (D := G.1) (ci := 6) (C := RX6) (T := TX6) (N := 48) hx hb hts inX6 hown hK.1 hP 0 mW_0 rfl 11 (by decide) (hts _ w_857) (fun _ h9 => h9) mF_11 dX6_loop_150 ?_
                refine lv_iload_n hx hb dX6_loop_153 rfl (lv_at hl 1 rfl) ?_
                refine lv_iload hx hb dX6_loop_154 (lv_at hl 0 rfl) ?_
                refine lv_bipush (v := 63) hx hb dX6_loop_156 (by decide) ?_
                refine jn_v (v := (if r126 = 63 then 1 else (if r126 = 43 then 2 else 0 : Int32) : Int32)) (pcM := 177) (rest := [.int r108, .ref (q 11)]) (fun kM => ?_) ?_
                ·
                  refine lv_icmp_ne (tgt := 165) hx hb dX6_loop_158 (by decide) (fun h128 => ?_) (fun h128 => ?_)
                  ·
                    refine lv_iload hx hb dX6_loop_165 (lv_at hl 0 rfl) ?_
                    refine lv_bipush (v := 43) hx hb dX6_loop_167 (by decide) ?_
                    refine lv_icmp_ne (tgt := 176) hx hb dX6_loop_169 (by decide) (fun h129 => ?_) (fun h129 => ?_)
                    ·
                      refine lv_iconst (v := 0) hx hb dX6_loop_176 (by decide) ?_
                      exact kM _ (by try rw [if_neg h128]; try rw [if_neg h129])
                    ·
                      refine lv_iconst (v := 2) hx hb dX6_loop_172 (by decide) ?_
                      refine lv_goto (tgt := 177) hx hb dX6_loop_173 (by decide) ?_
                      exact kM _ (by try rw [if_neg h128]; try rw [if_pos h129])
                  ·
                    refine lv_iconst (v := 1) hx hb dX6_loop_161 (by decide) ?_
                    refine lv_goto (tgt := 177) hx hb dX6_loop_162 (by decide) ?_
                    exact kM _ (by try rw [if_pos h128])
                obtain ⟨hin, hE⟩ := hE
                refine va_iast (D := G.1) hx hb hK.1 hP hD hS 6 0 mW_g11 rfl hin dX6_loop_177 (fun H locs hP hD hS => ?_)
                rw [mW_a11] at hP hD
                refine lv_aload_n hx hb dX6_loop_178 rfl (lv_at hl 3 rfl) ?_
                refine lv_dup hx hb dX6_loop_179 rfl ?_
                refine va_get (D := G.1) (ci := 6) (C := RX6) (T := TX6) (N := 48) hx hb hts inX6 hown hK.1 hP 0 mW_0 rfl 17 (by decide) (hts _ w_863) (fun _ h9 => h9) mF_17 dX6_loop_180 ?_
                refine tp_i (R125.1 17) rfl ?_
                refine lv_aload_n hx hb dX6_loop_183 rfl (lv_at hl 3 rfl) ?_
                refine va_get (D := G.1) (ci := 6) (C := RX6) (T := TX6) (N := 48) hx hb hts inX6 hown hK.1 hP 0 mW_0 rfl 11 (by decide) (hts _ w_857) (fun _ h9 => h9) mF_11 dX6_loop_184 ?_
                refine lv_iload_n hx hb dX6_loop_187 rfl (lv_at hl 1 rfl) ?_
                obtain ⟨hin, hE⟩ := hE
                refine va_iald (D := G.1) hx hb hK.1 hP 6 0 mW_g11 rfl hin dX6_loop_188 ?_
                refine tp_i ((ma R125 11 r108.toNatClampNeg (if r126 = 63 then 1 else (if r126 = 43 then 2 else 0 : Int32) : Int32)).2.1 11 r108.toNatClampNeg) rfl ?_
                refine jn_v (v := (if ((ma R125 11 r108.toNatClampNeg (if r126 = 63 then 1 else (if r126 = 43 then 2 else 0 : Int32) : Int32)).2.1 11 r108.toNatClampNeg) = 0 then 0 else 1 : Int32)) (pcM := 197) (rest := [.int (R125.1 17), .ref h]) (fun kM => ?_) ?_
                ·
                  refine lv_if_ne (tgt := 196) hx hb dX6_loop_189 (by decide) (fun h131 => ?_) (fun h131 => ?_)
                  ·
                    refine lv_iconst (v := 1) hx hb dX6_loop_196 (by decide) ?_
                    exact kM _ (by try rw [if_neg h131])
                  ·
                    refine lv_iconst (v := 0) hx hb dX6_loop_192 (by decide) ?_
                    refine lv_goto (tgt := 197) hx hb dX6_loop_193 (by decide) ?_
                    exact kM _ (by try rw [if_pos h131])
                refine lv_iadd hx hb dX6_loop_197 ?_
                refine va_put (D := G.1) (ci := 6) (v := .int ((R125.1 17) + (if ((ma R125 11 r108.toNatClampNeg (if r126 = 63 then 1 else (if r126 = 43 then 2 else 0 : Int32) : Int32)).2.1 11 r108.toNatClampNeg) = 0 then 0 else 1 : Int32))) (ty := .int) (C := RX6) (T := TX6) (N := 48) hx hb hts inX6 tyX6 tyX6_ok nmX6 hown hK.1 hP hD hS 0 mW_0 rfl 17 (by decide) (hts _ w_863) (fun _ h9 => h9) rfl (by decide +kernel) rfl rfl mF_l17 dX6_loop_198 (fun H locs hP hD hS => ?_)
                rw [mW_f17] at hP hD
                refine lv_aload_n hx hb dX6_loop_201 rfl (lv_at hl 3 rfl) ?_
                refine lv_iload_n hx hb dX6_loop_202 rfl (lv_at hl 1 rfl) ?_
                obtain ⟨R132, hg, hE⟩ := hE
                refine kA_v (va_runV (As := [.int r108]) (rest := []) F.1 (e_append l G h q (mf (ma R125 11 r108.toNatClampNeg (if r126 = 63 then 1 else (if r126 = 43 then 2 else 0 : Int32) : Int32)) 17 ((R125.1 17) + (if ((ma R125 11 r108.toNatClampNeg (if r126 = 63 then 1 else (if r126 = 43 then 2 else 0 : Int32) : Int32)).2.1 11 r108.toNatClampNeg) = 0 then 0 else 1 : Int32))) r108 R132 0 hg _) (cwV 1 hts (aw_V w_1051 w_1053 ws_X6_append w_6 w_1054) rfl rfl rfl (by decide +kernel) ⟨by decide, by decide⟩) ⟨cS_blind, va_recv (q := (RX6, TX6, 48)) (ci := 6) (q0 := 0) hK.1 hP rfl mW_0, cS_pre hP hD hK⟩ rfl rfl hl.1 rfl (lv_room (Nat.le_of_ble_eq_true rfl)) dX6_loop_203 ⟨Nat.le_refl _, Nat.le_refl _⟩) hD hS hA (fun u0 H locs hp hP hD hS => ?_)
                refine lv_iconst (v := 1) hx hb dX6_loop_206 (by decide) ?_
                obtain ⟨rfl, rfl⟩ := hE
                exact en_i F hS _ () (by rfl) rfl hP hD (Nat.le_refl _) (Nat.le_refl _) dX6_loop_207
              ·
                rw [if_neg h124] at hE
                refine lv_iconst (v := 0) hx hb dX6_loop_140 (by decide) ?_
                obtain ⟨rfl, rfl⟩ := hE
                exact en_i F hS _ () (by rfl) rfl hP hD (Nat.le_refl _) (Nat.le_refl _) dX6_loop_141
          ·
            rw [if_pos h113] at hE
            refine lv_aload_n hx hb dX6_loop_108 rfl (lv_at hl 2 rfl) ?_
            refine lv_iload_n hx hb dX6_loop_109 rfl (lv_at hl 0 rfl) ?_
            obtain ⟨R134, r135, hg, hE⟩ := hE
            refine kA_i (va_runV (As := [.int r108]) (rest := []) F.1 (e_bounds l G h q (mf (ma (ma (ma R107 12 r108.toNatClampNeg a1) 9 r108.toNatClampNeg (if r3 = 43 then 1 else 0 : Int32)) 10 r108.toNatClampNeg (if r3 = 63 then 1 else (-1) : Int32)) 17 ((R107.1 17) + 1)) r108 R134 r135 hg _) (cwV 1 hts (aw_V w_1055 w_1057 ws_X6_bounds w_6 w_1058) rfl rfl rfl (by decide +kernel) ⟨by decide, by decide⟩) ⟨cS_blind, va_recv (q := (RX6, TX6, 48)) (ci := 6) (q0 := 0) hK.1 hP rfl mW_0, cS_pre hP hD hK⟩ rfl rfl hl.1 rfl (lv_room (Nat.le_of_ble_eq_true rfl)) dX6_loop_110 ⟨Nat.le_refl _, Nat.le_refl _⟩) hD hS hA (fun r9 u0 H locs hp hP hD hS => ?_)
            have hp := hp.symm; subst hp
            refine lv_if_ne (tgt := 118) hx hb dX6_loop_113 (by decide) (fun h136 => ?_) (fun h136 => ?_)
            ·
              rw [if_neg h136] at hE
              refine lv_aload_n hx hb dX6_loop_118 rfl (lv_at hl 2 rfl) ?_
              refine va_get (D := G.1) (ci := 6) (C := RX6) (T := TX6) (N := 48) hx hb hts inX6 hown hK.1 hP 0 mW_0 rfl 10 (by decide) (hts _ w_856) (fun _ h9 => h9) mF_10 dX6_loop_119 ?_
              refine lv_iload_n hx hb dX6_loop_122 rfl (lv_at hl 0 rfl) ?_
              obtain ⟨hin, hE⟩ := hE
              refine va_iald (D := G.1) hx hb hK.1 hP 5 0 mW_g10 rfl hin dX6_loop_123 ?_
              refine lv_iconst (v := (-1)) hx hb dX6_loop_124 (by decide) ?_
              refine lv_icmp_ne (tgt := 142) hx hb dX6_loop_125 (by decide) (fun h137 => ?_) (fun h137 => ?_)
              ·
                rw [if_neg h137] at hE
                refine lv_aload_n hx hb dX6_loop_142 rfl (lv_at hl 2 rfl) ?_
                refine lv_iconst (v := 0) hx hb dX6_loop_143 (by decide) ?_
                obtain ⟨R138, r139, hg, hE⟩ := hE
                refine kA_i (va_runV (As := [.int 0]) (rest := []) F.1 (e_peek l G h q R134 0 R138 r139 hg _) (cwV 1 hts (aw_V w_1031 w_1033 ws_X6_peek w_6 w_1034) rfl rfl rfl (by decide +kernel) ⟨by decide, by decide⟩) ⟨cS_blind, va_recv (q := (RX6, TX6, 48)) (ci := 6) (q0 := 0) hK.1 hP rfl mW_0, cS_pre hP hD hK⟩ rfl rfl hl.1 rfl (lv_room (Nat.le_of_ble_eq_true rfl)) dX6_loop_144 ⟨Nat.le_refl _, Nat.le_refl _⟩) hD hS hA (fun r9 u0 H locs hp hP hD hS => ?_)
                have hp := hp.symm; subst hp
                refine lv_istore hx hb dX6_loop_147 hl (by decide) rfl (fun ls hl => ?_)
                have hl : lv_has ls 5 [(4, .int r139), (3, .int r108), (2, .int r3), (0, .ref h), (1, .int a1)] := hl
                refine lv_aload_n hx hb dX6_loop_149 rfl (lv_at hl 3 rfl) ?_
                refine va_get (D := G.1) (ci := 6) (C := RX6) (T := TX6) (N := 48) hx hb hts inX6 hown hK.1 hP 0 mW_0 rfl 11 (by decide) (hts _ w_857) (fun _ h9 => h9) mF_11 dX6_loop_150 ?_
                refine lv_iload_n hx hb dX6_loop_153 rfl (lv_at hl 1 rfl) ?_
                refine lv_iload hx hb dX6_loop_154 (lv_at hl 0 rfl) ?_
                refine lv_bipush (v := 63) hx hb dX6_loop_156 (by decide) ?_
                refine jn_v (v := (if r139 = 63 then 1 else (if r139 = 43 then 2 else 0 : Int32) : Int32)) (pcM := 177) (rest := [.int r108, .ref (q 11)]) (fun kM => ?_) ?_
                ·
                  refine lv_icmp_ne (tgt := 165) hx hb dX6_loop_158 (by decide) (fun h141 => ?_) (fun h141 => ?_)
                  ·
                    refine lv_iload hx hb dX6_loop_165 (lv_at hl 0 rfl) ?_
                    refine lv_bipush (v := 43) hx hb dX6_loop_167 (by decide) ?_
                    refine lv_icmp_ne (tgt := 176) hx hb dX6_loop_169 (by decide) (fun h142 => ?_) (fun h142 => ?_)
                    ·
                      refine lv_iconst (v := 0) hx hb dX6_loop_176 (by decide) ?_
                      exact kM _ (by try rw [if_neg h141]; try rw [if_neg h142])
                    ·
                      refine lv_iconst (v := 2) hx hb dX6_loop_172 (by decide) ?_
                      refine lv_goto (tgt := 177) hx hb dX6_loop_173 (by decide) ?_
                      exact kM _ (by try rw [if_neg h141]; try rw [if_pos h142])
                  ·
                    refine lv_iconst (v := 1) hx hb dX6_loop_161 (by decide) ?_
                    refine lv_goto (tgt := 177) hx hb dX6_loop_162 (by decide) ?_
                    exact kM _ (by try rw [if_pos h141])
                obtain ⟨hin, hE⟩ := hE
                refine va_iast (D := G.1) hx hb hK.1 hP hD hS 6 0 mW_g11 rfl hin dX6_loop_177 (fun H locs hP hD hS => ?_)
                rw [mW_a11] at hP hD
                refine lv_aload_n hx hb dX6_loop_178 rfl (lv_at hl 3 rfl) ?_
                refine lv_dup hx hb dX6_loop_179 rfl ?_
                refine va_get (D := G.1) (ci := 6) (C := RX6) (T := TX6) (N := 48) hx hb hts inX6 hown hK.1 hP 0 mW_0 rfl 17 (by decide) (hts _ w_863) (fun _ h9 => h9) mF_17 dX6_loop_180 ?_
                refine tp_i (R138.1 17) rfl ?_
                refine lv_aload_n hx hb dX6_loop_183 rfl (lv_at hl 3 rfl) ?_
                refine va_get (D := G.1) (ci := 6) (C := RX6) (T := TX6) (N := 48) hx hb hts inX6 hown hK.1 hP 0 mW_0 rfl 11 (by decide) (hts _ w_857) (fun _ h9 => h9) mF_11 dX6_loop_184 ?_
                refine lv_iload_n hx hb dX6_loop_187 rfl (lv_at hl 1 rfl) ?_
                obtain ⟨hin, hE⟩ := hE
                refine va_iald (D := G.1) hx hb hK.1 hP 6 0 mW_g11 rfl hin dX6_loop_188 ?_
                refine tp_i ((ma R138 11 r108.toNatClampNeg (if r139 = 63 then 1 else (if r139 = 43 then 2 else 0 : Int32) : Int32)).2.1 11 r108.toNatClampNeg) rfl ?_
                refine jn_v (v := (if ((ma R138 11 r108.toNatClampNeg (if r139 = 63 then 1 else (if r139 = 43 then 2 else 0 : Int32) : Int32)).2.1 11 r108.toNatClampNeg) = 0 then 0 else 1 : Int32)) (pcM := 197) (rest := [.int (R138.1 17), .ref h]) (fun kM => ?_) ?_
                ·
                  refine lv_if_ne (tgt := 196) hx hb dX6_loop_189 (by decide) (fun h144 => ?_) (fun h144 => ?_)
                  ·
                    refine lv_iconst (v := 1) hx hb dX6_loop_196 (by decide) ?_
                    exact kM _ (by try rw [if_neg h144])
                  ·
                    refine lv_iconst (v := 0) hx hb dX6_loop_192 (by decide) ?_
                    refine lv_goto (tgt := 197) hx hb dX6_loop_193 (by decide) ?_
                    exact kM _ (by try rw [if_pos h144])
                refine lv_iadd hx hb dX6_loop_197 ?_
                refine va_put (D := G.1) (ci := 6) (v := .int ((R138.1 17) + (if ((ma R138 11 r108.toNatClampNeg (if r139 = 63 then 1 else (if r139 = 43 then 2 else 0 : Int32) : Int32)).2.1 11 r108.toNatClampNeg) = 0 then 0 else 1 : Int32))) (ty := .int) (C := RX6) (T := TX6) (N := 48) hx hb hts inX6 tyX6 tyX6_ok nmX6 hown hK.1 hP hD hS 0 mW_0 rfl 17 (by decide) (hts _ w_863) (fun _ h9 => h9) rfl (by decide +kernel) rfl rfl mF_l17 dX6_loop_198 (fun H locs hP hD hS => ?_)
                rw [mW_f17] at hP hD
                refine lv_aload_n hx hb dX6_loop_201 rfl (lv_at hl 3 rfl) ?_
                refine lv_iload_n hx hb dX6_loop_202 rfl (lv_at hl 1 rfl) ?_
                obtain ⟨R145, hg, hE⟩ := hE
                refine kA_v (va_runV (As := [.int r108]) (rest := []) F.1 (e_append l G h q (mf (ma R138 11 r108.toNatClampNeg (if r139 = 63 then 1 else (if r139 = 43 then 2 else 0 : Int32) : Int32)) 17 ((R138.1 17) + (if ((ma R138 11 r108.toNatClampNeg (if r139 = 63 then 1 else (if r139 = 43 then 2 else 0 : Int32) : Int32)).2.1 11 r108.toNatClampNeg) = 0 then 0 else 1 : Int32))) r108 R145 0 hg _) (cwV 1 hts (aw_V w_1051 w_1053 ws_X6_append w_6 w_1054) rfl rfl rfl (by decide +kernel) ⟨by decide, by decide⟩) ⟨cS_blind, va_recv (q := (RX6, TX6, 48)) (ci := 6) (q0 := 0) hK.1 hP rfl mW_0, cS_pre hP hD hK⟩ rfl rfl hl.1 rfl (lv_room (Nat.le_of_ble_eq_true rfl)) dX6_loop_203 ⟨Nat.le_refl _, Nat.le_refl _⟩) hD hS hA (fun u0 H locs hp hP hD hS => ?_)
                refine lv_iconst (v := 1) hx hb dX6_loop_206 (by decide) ?_
                obtain ⟨rfl, rfl⟩ := hE
                exact en_i F hS _ () (by rfl) rfl hP hD (Nat.le_refl _) (Nat.le_refl _) dX6_loop_207
              ·
                rw [if_pos h137] at hE
                refine lv_aload_n hx hb dX6_loop_128 rfl (lv_at hl 2 rfl) ?_
                refine va_get (D := G.1) (ci := 6) (C := RX6) (T := TX6) (N := 48) hx hb hts inX6 hown hK.1 hP 0 mW_0 rfl 22 (by decide) (hts _ w_868) (fun _ h9 => h9) mF_22 dX6_loop_129 ?_
                refine lv_aload_n hx hb dX6_loop_132 rfl (lv_at hl 2 rfl) ?_
                refine va_get (D := G.1) (ci := 6) (C := RX6) (T := TX6) (N := 48) hx hb hts inX6 hown hK.1 hP 0 mW_0 rfl 16 (by decide) (hts _ w_862) (fun _ h9 => h9) mF_16 dX6_loop_133 ?_
                obtain ⟨hin, hE⟩ := hE
                refine va_zald (D := G.1) hx hb hK.1 hP 15 3 mW_g22 rfl hin dX6_loop_136 ?_
                refine lv_if_eq (tgt := 142) hx hb dX6_loop_137 (by decide) (fun h147 => ?_) (fun h147 => ?_)
                ·
                  rw [if_pos h147] at hE
                  refine lv_aload_n hx hb dX6_loop_142 rfl (lv_at hl 2 rfl) ?_
                  refine lv_iconst (v := 0) hx hb dX6_loop_143 (by decide) ?_
                  obtain ⟨R148, r149, hg, hE⟩ := hE
                  refine kA_i (va_runV (As := [.int 0]) (rest := []) F.1 (e_peek l G h q R134 0 R148 r149 hg _) (cwV 1 hts (aw_V w_1031 w_1033 ws_X6_peek w_6 w_1034) rfl rfl rfl (by decide +kernel) ⟨by decide, by decide⟩) ⟨cS_blind, va_recv (q := (RX6, TX6, 48)) (ci := 6) (q0 := 0) hK.1 hP rfl mW_0, cS_pre hP hD hK⟩ rfl rfl hl.1 rfl (lv_room (Nat.le_of_ble_eq_true rfl)) dX6_loop_144 ⟨Nat.le_refl _, Nat.le_refl _⟩) hD hS hA (fun r9 u0 H locs hp hP hD hS => ?_)
                  have hp := hp.symm; subst hp
                  refine lv_istore hx hb dX6_loop_147 hl (by decide) rfl (fun ls hl => ?_)
                  have hl : lv_has ls 5 [(4, .int r149), (3, .int r108), (2, .int r3), (0, .ref h), (1, .int a1)] := hl
                  refine lv_aload_n hx hb dX6_loop_149 rfl (lv_at hl 3 rfl) ?_
                  refine va_get (D := G.1) (ci := 6) (C := RX6) (T := TX6) (N := 48) hx hb hts inX6 hown hK.1 hP 0 mW_0 rfl 11 (by decide) (hts _ w_857) (fun _ h9 => h9) mF_11 dX6_loop_150 ?_
                  refine lv_iload_n hx hb dX6_loop_153 rfl (lv_at hl 1 rfl) ?_
                  refine lv_iload hx hb dX6_loop_154 (lv_at hl 0 rfl) ?_
                  refine lv_bipush (v := 63) hx hb dX6_loop_156 (by decide) ?_
                  refine jn_v (v := (if r149 = 63 then 1 else (if r149 = 43 then 2 else 0 : Int32) : Int32)) (pcM := 177) (rest := [.int r108, .ref (q 11)]) (fun kM => ?_) ?_
                  ·
                    refine lv_icmp_ne (tgt := 165) hx hb dX6_loop_158 (by decide) (fun h151 => ?_) (fun h151 => ?_)
                    ·
                      refine lv_iload hx hb dX6_loop_165 (lv_at hl 0 rfl) ?_
                      refine lv_bipush (v := 43) hx hb dX6_loop_167 (by decide) ?_
                      refine lv_icmp_ne (tgt := 176) hx hb dX6_loop_169 (by decide) (fun h152 => ?_) (fun h152 => ?_)
                      ·
                        refine lv_iconst (v := 0) hx hb dX6_loop_176 (by decide) ?_
                        exact kM _ (by try rw [if_neg h151]; try rw [if_neg h152])
                      ·
                        refine lv_iconst (v := 2) hx hb dX6_loop_172 (by decide) ?_
                        refine lv_goto (tgt := 177) hx hb dX6_loop_173 (by decide) ?_
                        exact kM _ (by try rw [if_neg h151]; try rw [if_pos h152])
                    ·
                      refine lv_iconst (v := 1) hx hb dX6_loop_161 (by decide) ?_
                      refine lv_goto (tgt := 177) hx hb dX6_loop_162 (by decide) ?_
                      exact kM _ (by try rw [if_pos h151])
                  obtain ⟨hin, hE⟩ := hE
                  refine va_iast (D := G.1) hx hb hK.1 hP hD hS 6 0 mW_g11 rfl hin dX6_loop_177 (fun H locs hP hD hS => ?_)
                  rw [mW_a11] at hP hD
                  refine lv_aload_n hx hb dX6_loop_178 rfl (lv_at hl 3 rfl) ?_
                  refine lv_dup hx hb dX6_loop_179 rfl ?_
                  refine va_get (D := G.1) (ci := 6) (C := RX6) (T := TX6) (N := 48) hx hb hts inX6 hown hK.1 hP 0 mW_0 rfl 17 (by decide) (hts _ w_863) (fun _ h9 => h9) mF_17 dX6_loop_180 ?_
                  refine tp_i (R148.1 17) rfl ?_
                  refine lv_aload_n hx hb dX6_loop_183 rfl (lv_at hl 3 rfl) ?_
                  refine va_get (D := G.1) (ci := 6) (C := RX6) (T := TX6) (N := 48) hx hb hts inX6 hown hK.1 hP 0 mW_0 rfl 11 (by decide) (hts _ w_857) (fun _ h9 => h9) mF_11 dX6_loop_184 ?_
                  refine lv_iload_n hx hb dX6_loop_187 rfl (lv_at hl 1 rfl) ?_
                  obtain ⟨hin, hE⟩ := hE
                  refine va_iald (D := G.1) hx hb hK.1 hP 6 0 mW_g11 rfl hin dX6_loop_188 ?_
                  refine tp_i ((ma R148 11 r108.toNatClampNeg (if r149 = 63 then 1 else (if r149 = 43 then 2 else 0 : Int32) : Int32)).2.1 11 r108.toNatClampNeg) rfl ?_
                  refine jn_v (v := (if ((ma R148 11 r108.toNatClampNeg (if r149 = 63 then 1 else (if r149 = 43 then 2 else 0 : Int32) : Int32)).2.1 11 r108.toNatClampNeg) = 0 then 0 else 1 : Int32)) (pcM := 197) (rest := [.int (R148.1 17), .ref h]) (fun kM => ?_) ?_
                  ·
                    refine lv_if_ne (tgt := 196) hx hb dX6_loop_189 (by decide) (fun h154 => ?_) (fun h154 => ?_)
                    ·
                      refine lv_iconst (v := 1) hx hb dX6_loop_196 (by decide) ?_
                      exact kM _ (by try rw [if_neg h154])
                    ·
                      refine lv_iconst (v := 0) hx hb dX6_loop_192 (by decide) ?_
                      refine lv_goto (tgt := 197) hx hb dX6_loop_193 (by decide) ?_
                      exact kM _ (by try rw [if_pos h154])
                  refine lv_iadd hx hb dX6_loop_197 ?_
                  refine va_put (D := G.1) (ci := 6) (v := .int ((R148.1 17) + (if ((ma R148 11 r108.toNatClampNeg (if r149 = 63 then 1 else (if r149 = 43 then 2 else 0 : Int32) : Int32)).2.1 11 r108.toNatClampNeg) = 0 then 0 else 1 : Int32))) (ty := .int) (C := RX6) (T := TX6) (N := 48) hx hb hts inX6 tyX6 tyX6_ok nmX6 hown hK.1 hP hD hS 0 mW_0 rfl 17 (by decide) (hts _ w_863) (fun _ h9 => h9) rfl (by decide +kernel) rfl rfl mF_l17 dX6_loop_198 (fun H locs hP hD hS => ?_)
                  rw [mW_f17] at hP hD
                  refine lv_aload_n hx hb dX6_loop_201 rfl (lv_at hl 3 rfl) ?_
                  refine lv_iload_n hx hb dX6_loop_202 rfl (lv_at hl 1 rfl) ?_
                  obtain ⟨R155, hg, hE⟩ := hE
                  refine kA_v (va_runV (As := [.int r108]) (rest := []) F.1 (e_append l G h q (mf (ma R148 11 r108.toNatClampNeg (if r149 = 63 then 1 else (if r149 = 43 then 2 else 0 : Int32) : Int32)) 17 ((R148.1 17) + (if ((ma R148 11 r108.toNatClampNeg (if r149 = 63 then 1 else (if r149 = 43 then 2 else 0 : Int32) : Int32)).2.1 11 r108.toNatClampNeg) = 0 then 0 else 1 : Int32))) r108 R155 0 hg _) (cwV 1 hts (aw_V w_1051 w_1053 ws_X6_append w_6 w_1054) rfl rfl rfl (by decide +kernel) ⟨by decide, by decide⟩) ⟨cS_blind, va_recv (q := (RX6, TX6, 48)) (ci := 6) (q0 := 0) hK.1 hP rfl mW_0, cS_pre hP hD hK⟩ rfl rfl hl.1 rfl (lv_room (Nat.le_of_ble_eq_true rfl)) dX6_loop_203 ⟨Nat.le_refl _, Nat.le_refl _⟩) hD hS hA (fun u0 H locs hp hP hD hS => ?_)
                  refine lv_iconst (v := 1) hx hb dX6_loop_206 (by decide) ?_
                  obtain ⟨rfl, rfl⟩ := hE
                  exact en_i F hS _ () (by rfl) rfl hP hD (Nat.le_refl _) (Nat.le_refl _) dX6_loop_207
                ·
                  rw [if_neg h147] at hE
                  refine lv_iconst (v := 0) hx hb dX6_loop_140 (by decide) ?_
                  obtain ⟨rfl, rfl⟩ := hE
                  exact en_i F hS _ () (by rfl) rfl hP hD (Nat.le_refl _) (Nat.le_refl _) dX6_loop_141
            ·
              rw [if_pos h136] at hE
              refine lv_iconst (v := 0) hx hb dX6_loop_116 (by decide) ?_
              obtain ⟨rfl, rfl⟩ := hE
              exact en_i F hS _ () (by rfl) rfl hP hD (Nat.le_refl _) (Nat.le_refl _) dX6_loop_117
        ·
          rw [if_neg h106] at hE
          refine lv_iload_n hx hb dX6_loop_31 rfl (lv_at hl 0 rfl) ?_
          refine lv_bipush (v := 123) hx hb dX6_loop_32 (by decide) ?_
          refine lv_icmp_eq (tgt := 44) hx hb dX6_loop_34 (by decide) (fun h157 => ?_) (fun h157 => ?_)
          ·
            rw [if_pos h157] at hE
            refine lv_aload_n hx hb dX6_loop_44 rfl (lv_at hl 1 rfl) ?_
            refine lv_bipush (v := 15) hx hb dX6_loop_45 (by decide) ?_
            obtain ⟨R158, r159, hg, hE⟩ := hE
            refine kA_i (va_runV (As := [.int 15]) (rest := []) F.1 (e_create l G h q R2 15 R158 r159 hg _) (cwV 1 hts (aw_V w_1023 w_1025 ws_X6_create w_6 w_1026) rfl rfl rfl (by decide +kernel) ⟨by decide, by decide⟩) ⟨cS_blind, va_recv (q := (RX6, TX6, 48)) (ci := 6) (q0 := 0) hK.1 hP rfl mW_0, cS_pre hP hD hK⟩ rfl rfl hl.1 rfl (lv_room (Nat.le_of_ble_eq_true rfl)) dX6_loop_47 ⟨Nat.le_refl _, Nat.le_refl _⟩) hD hS hA (fun r9 u0 H locs hp hP hD hS => ?_)
            have hp := hp.symm; subst hp
            refine lv_istore_n hx hb dX6_loop_50 rfl hl (by decide) rfl (fun ls hl => ?_)
            have hl : lv_has ls 5 [(3, .int r159), (2, .int r3), (0, .ref h), (1, .int a1)] := hl
            refine lv_aload_n hx hb dX6_loop_51 rfl (lv_at hl 2 rfl) ?_
            refine va_get (D := G.1) (ci := 6) (C := RX6) (T := TX6) (N := 48) hx hb hts inX6 hown hK.1 hP 0 mW_0 rfl 12 (by decide) (hts _ w_858) (fun _ h9 => h9) mF_12 dX6_loop_52 ?_
            refine lv_iload_n hx hb dX6_loop_55 rfl (lv_at hl 0 rfl) ?_
            refine lv_iload_n hx hb dX6_loop_56 rfl (lv_at hl 3 rfl) ?_
            obtain ⟨hin, hE⟩ := hE
            refine va_iast (D := G.1) hx hb hK.1 hP hD hS 7 0 mW_g12 rfl hin dX6_loop_57 (fun H locs hP hD hS => ?_)
            rw [mW_a12] at hP hD
            refine lv_aload_n hx hb dX6_loop_58 rfl (lv_at hl 2 rfl) ?_
            refine va_get (D := G.1) (ci := 6) (C := RX6) (T := TX6) (N := 48) hx hb hts inX6 hown hK.1 hP 0 mW_0 rfl 9 (by decide) (hts _ w_855) (fun _ h9 => h9) mF_9 dX6_loop_59 ?_
            refine lv_iload_n hx hb dX6_loop_62 rfl (lv_at hl 0 rfl) ?_
            refine lv_iload_n hx hb dX6_loop_63 rfl (lv_at hl 1 rfl) ?_
            refine lv_bipush (v := 43) hx hb dX6_loop_64 (by decide) ?_
            refine jn_v (v := (if r3 = 43 then 1 else 0 : Int32)) (pcM := 74) (rest := [.int r159, .ref (q 9)]) (fun kM => ?_) ?_
            ·
              refine lv_icmp_ne (tgt := 73) hx hb dX6_loop_66 (by decide) (fun h161 => ?_) (fun h161 => ?_)
              ·
                refine lv_iconst (v := 0) hx hb dX6_loop_73 (by decide) ?_
                exact kM _ (by try rw [if_neg h161])
              ·
                refine lv_iconst (v := 1) hx hb dX6_loop_69 (by decide) ?_
                refine lv_goto (tgt := 74) hx hb dX6_loop_70 (by decide) ?_
                exact kM _ (by try rw [if_pos h161])
            obtain ⟨hin, hE⟩ := hE
            refine va_iast (D := G.1) hx hb hK.1 hP hD hS 4 0 mW_g9 rfl hin dX6_loop_74 (fun H locs hP hD hS => ?_)
            rw [mW_a9] at hP hD
            refine lv_aload_n hx hb dX6_loop_75 rfl (lv_at hl 2 rfl) ?_
            refine va_get (D := G.1) (ci := 6) (C := RX6) (T := TX6) (N := 48) hx hb hts inX6 hown hK.1 hP 0 mW_0 rfl 10 (by decide) (hts _ w_856) (fun _ h9 => h9) mF_10 dX6_loop_76 ?_
            refine lv_iload_n hx hb dX6_loop_79 rfl (lv_at hl 0 rfl) ?_
            refine lv_iload_n hx hb dX6_loop_80 rfl (lv_at hl 1 rfl) ?_
            refine lv_bipush (v := 63) hx hb dX6_loop_81 (by decide) ?_
            refine jn_v (v := (if r3 = 63 then 1 else (-1) : Int32)) (pcM := 91) (rest := [.int r159, .ref (q 10)]) (fun kM => ?_) ?_
            ·
              refine lv_icmp_ne (tgt := 90) hx hb dX6_loop_83 (by decide) (fun h163 => ?_) (fun h163 => ?_)
              ·
                refine lv_iconst (v := (-1)) hx hb dX6_loop_90 (by decide) ?_
                exact kM _ (by try rw [if_neg h163])
              ·
                refine lv_iconst (v := 1) hx hb dX6_loop_86 (by decide) ?_
                refine lv_goto (tgt := 91) hx hb dX6_loop_87 (by decide) ?_
                exact kM _ (by try rw [if_pos h163])
            obtain ⟨hin, hE⟩ := hE
            refine va_iast (D := G.1) hx hb hK.1 hP hD hS 5 0 mW_g10 rfl hin dX6_loop_91 (fun H locs hP hD hS => ?_)
            rw [mW_a10] at hP hD
            refine lv_aload_n hx hb dX6_loop_92 rfl (lv_at hl 2 rfl) ?_
            refine lv_dup hx hb dX6_loop_93 rfl ?_
            refine va_get (D := G.1) (ci := 6) (C := RX6) (T := TX6) (N := 48) hx hb hts inX6 hown hK.1 hP 0 mW_0 rfl 17 (by decide) (hts _ w_863) (fun _ h9 => h9) mF_17 dX6_loop_94 ?_
            refine tp_i (R158.1 17) rfl ?_
            refine lv_iconst (v := 1) hx hb dX6_loop_97 (by decide) ?_
            refine lv_iadd hx hb dX6_loop_98 ?_
            refine va_put (D := G.1) (ci := 6) (v := .int ((R158.1 17) + 1)) (ty := .int) (C := RX6) (T := TX6) (N := 48) hx hb hts inX6 tyX6 tyX6_ok nmX6 hown hK.1 hP hD hS 0 mW_0 rfl 17 (by decide) (hts _ w_863) (fun _ h9 => h9) rfl (by decide +kernel) rfl rfl mF_l17 dX6_loop_99 (fun H locs hP hD hS => ?_)
            rw [mW_f17] at hP hD
            refine lv_iload_n hx hb dX6_loop_102 rfl (lv_at hl 1 rfl) ?_
            refine lv_bipush (v := 123) hx hb dX6_loop_103 (by decide) ?_
            refine lv_icmp_ne (tgt := 118) hx hb dX6_loop_105 (by decide) (fun h164 => ?_) (fun h164 => ?_)
            ·
              rw [if_neg h164] at hE
              refine lv_aload_n hx hb dX6_loop_118 rfl (lv_at hl 2 rfl) ?_
              refine va_get (D := G.1) (ci := 6) (C := RX6) (T := TX6) (N := 48) hx hb hts inX6 hown hK.1 hP 0 mW_0 rfl 10 (by decide) (hts _ w_856) (fun _ h9 => h9) mF_10 dX6_loop_119 ?_
              refine lv_iload_n hx hb dX6_loop_122 rfl (lv_at hl 0 rfl) ?_
              obtain ⟨hin, hE⟩ := hE
              refine va_iald (D := G.1) hx hb hK.1 hP 5 0 mW_g10 rfl hin dX6_loop_123 ?_
              refine tp_i ((mf (ma (ma (ma R158 12 r159.toNatClampNeg a1) 9 r159.toNatClampNeg (if r3 = 43 then 1 else 0 : Int32)) 10 r159.toNatClampNeg (if r3 = 63 then 1 else (-1) : Int32)) 17 ((R158.1 17) + 1)).2.1 10 r159.toNatClampNeg) rfl ?_
              refine lv_iconst (v := (-1)) hx hb dX6_loop_124 (by decide) ?_
              refine lv_icmp_ne (tgt := 142) hx hb dX6_loop_125 (by decide) (fun h165 => ?_) (fun h165 => ?_)
              ·
                rw [if_neg h165] at hE
                refine lv_aload_n hx hb dX6_loop_142 rfl (lv_at hl 2 rfl) ?_
                refine lv_iconst (v := 0) hx hb dX6_loop_143 (by decide) ?_
                obtain ⟨R166, r167, hg, hE⟩ := hE
                refine kA_i (va_runV (As := [.int 0]) (rest := []) F.1 (e_peek l G h q (mf (ma (ma (ma R158 12 r159.toNatClampNeg a1) 9 r159.toNatClampNeg (if r3 = 43 then 1 else 0 : Int32)) 10 r159.toNatClampNeg (if r3 = 63 then 1 else (-1) : Int32)) 17 ((R158.1 17) + 1)) 0 R166 r167 hg _) (cwV 1 hts (aw_V w_1031 w_1033 ws_X6_peek w_6 w_1034) rfl rfl rfl (by decide +kernel) ⟨by decide, by decide⟩) ⟨cS_blind, va_recv (q := (RX6, TX6, 48)) (ci := 6) (q0 := 0) hK.1 hP rfl mW_0, cS_pre hP hD hK⟩ rfl rfl hl.1 rfl (lv_room (Nat.le_of_ble_eq_true rfl)) dX6_loop_144 ⟨Nat.le_refl _, Nat.le_refl _⟩) hD hS hA (fun r9 u0 H locs hp hP hD hS => ?_)
                have hp := hp.symm; subst hp
                refine lv_istore hx hb dX6_loop_147 hl (by decide) rfl (fun ls hl => ?_)
                have hl : lv_has ls 5 [(4, .int r167), (3, .int r159), (2, .int r3), (0, .ref h), (1, .int a1)] := hl
                refine lv_aload_n hx hb dX6_loop_149 rfl (lv_at hl 3 rfl) ?_
                refine va_get (D := G.1) (ci := 6) (C := RX6) (T := TX6) (N := 48) hx hb hts inX6 hown hK.1 hP 0 mW_0 rfl 11 (by decide) (hts _ w_857) (fun _ h9 => h9) mF_11 dX6_loop_150 ?_
                refine lv_iload_n hx hb dX6_loop_153 rfl (lv_at hl 1 rfl) ?_
                refine lv_iload hx hb dX6_loop_154 (lv_at hl 0 rfl) ?_
                refine lv_bipush (v := 63) hx hb dX6_loop_156 (by decide) ?_
                refine jn_v (v := (if r167 = 63 then 1 else (if r167 = 43 then 2 else 0 : Int32) : Int32)) (pcM := 177) (rest := [.int r159, .ref (q 11)]) (fun kM => ?_) ?_
                ·
                  refine lv_icmp_ne (tgt := 165) hx hb dX6_loop_158 (by decide) (fun h169 => ?_) (fun h169 => ?_)
                  ·
                    refine lv_iload hx hb dX6_loop_165 (lv_at hl 0 rfl) ?_
                    refine lv_bipush (v := 43) hx hb dX6_loop_167 (by decide) ?_
                    refine lv_icmp_ne (tgt := 176) hx hb dX6_loop_169 (by decide) (fun h170 => ?_) (fun h170 => ?_)
                    ·
                      refine lv_iconst (v := 0) hx hb dX6_loop_176 (by decide) ?_
                      exact kM _ (by try rw [if_neg h169]; try rw [if_neg h170])
                    ·
                      refine lv_iconst (v := 2) hx hb dX6_loop_172 (by decide) ?_
                      refine lv_goto (tgt := 177) hx hb dX6_loop_173 (by decide) ?_
                      exact kM _ (by try rw [if_neg h169]; try rw [if_pos h170])
                  ·
                    refine lv_iconst (v := 1) hx hb dX6_loop_161 (by decide) ?_
                    refine lv_goto (tgt := 177) hx hb dX6_loop_162 (by decide) ?_
                    exact kM _ (by try rw [if_pos h169])
                obtain ⟨hin, hE⟩ := hE
                refine va_iast (D := G.1) hx hb hK.1 hP hD hS 6 0 mW_g11 rfl hin dX6_loop_177 (fun H locs hP hD hS => ?_)
                rw [mW_a11] at hP hD
                refine lv_aload_n hx hb dX6_loop_178 rfl (lv_at hl 3 rfl) ?_
                refine lv_dup hx hb dX6_loop_179 rfl ?_
                refine va_get (D := G.1) (ci := 6) (C := RX6) (T := TX6) (N := 48) hx hb hts inX6 hown hK.1 hP 0 mW_0 rfl 17 (by decide) (hts _ w_863) (fun _ h9 => h9) mF_17 dX6_loop_180 ?_
                refine tp_i (R166.1 17) rfl ?_
                refine lv_aload_n hx hb dX6_loop_183 rfl (lv_at hl 3 rfl) ?_
                refine va_get (D := G.1) (ci := 6) (C := RX6) (T := TX6) (N := 48) hx hb hts inX6 hown hK.1 hP 0 mW_0 rfl 11 (by decide) (hts _ w_857) (fun _ h9 => h9) mF_11 dX6_loop_184 ?_
                refine lv_iload_n hx hb dX6_loop_187 rfl (lv_at hl 1 rfl) ?_
                obtain ⟨hin, hE⟩ := hE
                refine va_iald (D := G.1) hx hb hK.1 hP 6 0 mW_g11 rfl hin dX6_loop_188 ?_
                refine tp_i ((ma R166 11 r159.toNatClampNeg (if r167 = 63 then 1 else (if r167 = 43 then 2 else 0 : Int32) : Int32)).2.1 11 r159.toNatClampNeg) rfl ?_
                refine jn_v (v := (if ((ma R166 11 r159.toNatClampNeg (if r167 = 63 then 1 else (if r167 = 43 then 2 else 0 : Int32) : Int32)).2.1 11 r159.toNatClampNeg) = 0 then 0 else 1 : Int32)) (pcM := 197) (rest := [.int (R166.1 17), .ref h]) (fun kM => ?_) ?_
                ·
                  refine lv_if_ne (tgt := 196) hx hb dX6_loop_189 (by decide) (fun h172 => ?_) (fun h172 => ?_)
                  ·
                    refine lv_iconst (v := 1) hx hb dX6_loop_196 (by decide) ?_
                    exact kM _ (by try rw [if_neg h172])
                  ·
                    refine lv_iconst (v := 0) hx hb dX6_loop_192 (by decide) ?_
                    refine lv_goto (tgt := 197) hx hb dX6_loop_193 (by decide) ?_
                    exact kM _ (by try rw [if_pos h172])
                refine lv_iadd hx hb dX6_loop_197 ?_
                refine va_put (D := G.1) (ci := 6) (v := .int ((R166.1 17) + (if ((ma R166 11 r159.toNatClampNeg (if r167 = 63 then 1 else (if r167 = 43 then 2 else 0 : Int32) : Int32)).2.1 11 r159.toNatClampNeg) = 0 then 0 else 1 : Int32))) (ty := .int) (C := RX6) (T := TX6) (N := 48) hx hb hts inX6 tyX6 tyX6_ok nmX6 hown hK.1 hP hD hS 0 mW_0 rfl 17 (by decide) (hts _ w_863) (fun _ h9 => h9) rfl (by decide +kernel) rfl rfl mF_l17 dX6_loop_198 (fun H locs hP hD hS => ?_)
                rw [mW_f17] at hP hD
                refine lv_aload_n hx hb dX6_loop_201 rfl (lv_at hl 3 rfl) ?_
                refine lv_iload_n hx hb dX6_loop_202 rfl (lv_at hl 1 rfl) ?_
                obtain ⟨R173, hg, hE⟩ := hE
                refine kA_v (va_runV (As := [.int r159]) (rest := []) F.1 (e_append l G h q (mf (ma R166 11 r159.toNatClampNeg (if r167 = 63 then 1 else (if r167 = 43 then 2 else 0 : Int32) : Int32)) 17 ((R166.1 17) + (if ((ma R166 11 r159.toNatClampNeg (if r167 = 63 then 1 else (if r167 = 43 then 2 else 0 : Int32) : Int32)).2.1 11 r159.toNatClampNeg) = 0 then 0 else 1 : Int32))) r159 R173 0 hg _) (cwV 1 hts (aw_V w_1051 w_1053 ws_X6_append w_6 w_1054) rfl rfl rfl (by decide +kernel) ⟨by decide, by decide⟩) ⟨cS_blind, va_recv (q := (RX6, TX6, 48)) (ci := 6) (q0 := 0) hK.1 hP rfl mW_0, cS_pre hP hD hK⟩ rfl rfl hl.1 rfl (lv_room (Nat.le_of_ble_eq_true rfl)) dX6_loop_203 ⟨Nat.le_refl _, Nat.le_refl _⟩) hD hS hA (fun u0 H locs hp hP hD hS => ?_)
                refine lv_iconst (v := 1) hx hb dX6_loop_206 (by decide) ?_
                obtain ⟨rfl, rfl⟩ := hE
                exact en_i F hS _ () (by rfl) rfl hP hD (Nat.le_refl _) (Nat.le_refl _) dX6_loop_207
              ·
                rw [if_pos h165] at hE
                refine lv_aload_n hx hb dX6_loop_128 rfl (lv_at hl 2 rfl) ?_
                refine va_get (D := G.1) (ci := 6) (C := RX6) (T := TX6) (N := 48) hx hb hts inX6 hown hK.1 hP 0 mW_0 rfl 22 (by decide) (hts _ w_868) (fun _ h9 => h9) mF_22 dX6_loop_129 ?_
                refine lv_aload_n hx hb dX6_loop_132 rfl (lv_at hl 2 rfl) ?_
                refine va_get (D := G.1) (ci := 6) (C := RX6) (T := TX6) (N := 48) hx hb hts inX6 hown hK.1 hP 0 mW_0 rfl 16 (by decide) (hts _ w_862) (fun _ h9 => h9) mF_16 dX6_loop_133 ?_
                refine tp_i (R158.1 16) rfl ?_
                obtain ⟨hin, hE⟩ := hE
                refine va_zald (D := G.1) hx hb hK.1 hP 15 3 mW_g22 rfl hin dX6_loop_136 ?_
                refine tp_i (R158.2.1 22 (R158.1 16).toNatClampNeg) rfl ?_
                refine lv_if_eq (tgt := 142) hx hb dX6_loop_137 (by decide) (fun h175 => ?_) (fun h175 => ?_)
                ·
                  rw [if_pos h175] at hE
                  refine lv_aload_n hx hb dX6_loop_142 rfl (lv_at hl 2 rfl) ?_
                  refine lv_iconst (v := 0) hx hb dX6_loop_143 (by decide) ?_
                  obtain ⟨R176, r177, hg, hE⟩ := hE
                  refine kA_i (va_runV (As := [.int 0]) (rest := []) F.1 (e_peek l G h q (mf (ma (ma (ma R158 12 r159.toNatClampNeg a1) 9 r159.toNatClampNeg (if r3 = 43 then 1 else 0 : Int32)) 10 r159.toNatClampNeg (if r3 = 63 then 1 else (-1) : Int32)) 17 ((R158.1 17) + 1)) 0 R176 r177 hg _) (cwV 1 hts (aw_V w_1031 w_1033 ws_X6_peek w_6 w_1034) rfl rfl rfl (by decide +kernel) ⟨by decide, by decide⟩) ⟨cS_blind, va_recv (q := (RX6, TX6, 48)) (ci := 6) (q0 := 0) hK.1 hP rfl mW_0, cS_pre hP hD hK⟩ rfl rfl hl.1 rfl (lv_room (Nat.le_of_ble_eq_true rfl)) dX6_loop_144 ⟨Nat.le_refl _, Nat.le_refl _⟩) hD hS hA (fun r9 u0 H locs hp hP hD hS => ?_)
                  have hp := hp.symm; subst hp
                  refine lv_istore hx hb dX6_loop_147 hl (by decide) rfl (fun ls hl => ?_)
                  have hl : lv_has ls 5 [(4, .int r177), (3, .int r159), (2, .int r3), (0, .ref h), (1, .int a1)] := hl
                  refine lv_aload_n hx hb dX6_loop_149 rfl (lv_at hl 3 rfl) ?_
                  refine va_get (D := G.1) (ci := 6) (C := RX6) (T := TX6) (N := 48) hx hb hts inX6 hown hK.1 hP 0 mW_0 rfl 11 (by decide) (hts _ w_857) (fun _ h9 => h9) mF_11 dX6_loop_150 ?_
                  refine lv_iload_n hx hb dX6_loop_153 rfl (lv_at hl 1 rfl) ?_
                  refine lv_iload hx hb dX6_loop_154 (lv_at hl 0 rfl) ?_
                  refine lv_bipush (v := 63) hx hb dX6_loop_156 (by decide) ?_
                  refine jn_v (v := (if r177 = 63 then 1 else (if r177 = 43 then 2 else 0 : Int32) : Int32)) (pcM := 177) (rest := [.int r159, .ref (q 11)]) (fun kM => ?_) ?_
                  ·
                    refine lv_icmp_ne (tgt := 165) hx hb dX6_loop_158 (by decide) (fun h179 => ?_) (fun h179 => ?_)
                    ·
                      refine lv_iload hx hb dX6_loop_165 (lv_at hl 0 rfl) ?_
                      refine lv_bipush (v := 43) hx hb dX6_loop_167 (by decide) ?_
                      refine lv_icmp_ne (tgt := 176) hx hb dX6_loop_169 (by decide) (fun h180 => ?_) (fun h180 => ?_)
                      ·
                        refine lv_iconst (v := 0) hx hb dX6_loop_176 (by decide) ?_
                        exact kM _ (by try rw [if_neg h179]; try rw [if_neg h180])
                      ·
                        refine lv_iconst (v := 2) hx hb dX6_loop_172 (by decide) ?_
                        refine lv_goto (tgt := 177) hx hb dX6_loop_173 (by decide) ?_
                        exact kM _ (by try rw [if_neg h179]; try rw [if_pos h180])
                    ·
                      refine lv_iconst (v := 1) hx hb dX6_loop_161 (by decide) ?_
                      refine lv_goto (tgt := 177) hx hb dX6_loop_162 (by decide) ?_
                      exact kM _ (by try rw [if_pos h179])
                  obtain ⟨hin, hE⟩ := hE
                  refine va_iast (D := G.1) hx hb hK.1 hP hD hS 6 0 mW_g11 rfl hin dX6_loop_177 (fun H locs hP hD hS => ?_)
                  rw [mW_a11] at hP hD
                  refine lv_aload_n hx hb dX6_loop_178 rfl (lv_at hl 3 rfl) ?_
                  refine lv_dup hx hb dX6_loop_179 rfl ?_
                  refine va_get (D := G.1) (ci := 6) (C := RX6) (T := TX6) (N := 48) hx hb hts inX6 hown hK.1 hP 0 mW_0 rfl 17 (by decide) (hts _ w_863) (fun _ h9 => h9) mF_17 dX6_loop_180 ?_
                  refine tp_i (R176.1 17) rfl ?_
                  refine lv_aload_n hx hb dX6_loop_183 rfl (lv_at hl 3 rfl) ?_
                  refine va_get (D := G.1) (ci := 6) (C := RX6) (T := TX6) (N := 48) hx hb hts inX6 hown hK.1 hP 0 mW_0 rfl 11 (by decide) (hts _ w_857) (fun _ h9 => h9) mF_11 dX6_loop_184 ?_
                  refine lv_iload_n hx hb dX6_loop_187 rfl (lv_at hl 1 rfl) ?_
                  obtain ⟨hin, hE⟩ := hE
                  refine va_iald (D := G.1) hx hb hK.1 hP 6 0 mW_g11 rfl hin dX6_loop_188 ?_
                  refine tp_i ((ma R176 11 r159.toNatClampNeg (if r177 = 63 then 1 else (if r177 = 43 then 2 else 0 : Int32) : Int32)).2.1 11 r159.toNatClampNeg) rfl ?_
                  refine jn_v (v := (if ((ma R176 11 r159.toNatClampNeg (if r177 = 63 then 1 else (if r177 = 43 then 2 else 0 : Int32) : Int32)).2.1 11 r159.toNatClampNeg) = 0 then 0 else 1 : Int32)) (pcM := 197) (rest := [.int (R176.1 17), .ref h]) (fun kM => ?_) ?_
                  ·
                    refine lv_if_ne (tgt := 196) hx hb dX6_loop_189 (by decide) (fun h182 => ?_) (fun h182 => ?_)
                    ·
                      refine lv_iconst (v := 1) hx hb dX6_loop_196 (by decide) ?_
                      exact kM _ (by try rw [if_neg h182])
                    ·
                      refine lv_iconst (v := 0) hx hb dX6_loop_192 (by decide) ?_
                      refine lv_goto (tgt := 197) hx hb dX6_loop_193 (by decide) ?_
                      exact kM _ (by try rw [if_pos h182])
                  refine lv_iadd hx hb dX6_loop_197 ?_
                  refine va_put (D := G.1) (ci := 6) (v := .int ((R176.1 17) + (if ((ma R176 11 r159.toNatClampNeg (if r177 = 63 then 1 else (if r177 = 43 then 2 else 0 : Int32) : Int32)).2.1 11 r159.toNatClampNeg) = 0 then 0 else 1 : Int32))) (ty := .int) (C := RX6) (T := TX6) (N := 48) hx hb hts inX6 tyX6 tyX6_ok nmX6 hown hK.1 hP hD hS 0 mW_0 rfl 17 (by decide) (hts _ w_863) (fun _ h9 => h9) rfl (by decide +kernel) rfl rfl mF_l17 dX6_loop_198 (fun H locs hP hD hS => ?_)
                  rw [mW_f17] at hP hD
                  refine lv_aload_n hx hb dX6_loop_201 rfl (lv_at hl 3 rfl) ?_
                  refine lv_iload_n hx hb dX6_loop_202 rfl (lv_at hl 1 rfl) ?_
                  obtain ⟨R183, hg, hE⟩ := hE
                  refine kA_v (va_runV (As := [.int r159]) (rest := []) F.1 (e_append l G h q (mf (ma R176 11 r159.toNatClampNeg (if r177 = 63 then 1 else (if r177 = 43 then 2 else 0 : Int32) : Int32)) 17 ((R176.1 17) + (if ((ma R176 11 r159.toNatClampNeg (if r177 = 63 then 1 else (if r177 = 43 then 2 else 0 : Int32) : Int32)).2.1 11 r159.toNatClampNeg) = 0 then 0 else 1 : Int32))) r159 R183 0 hg _) (cwV 1 hts (aw_V w_1051 w_1053 ws_X6_append w_6 w_1054) rfl rfl rfl (by decide +kernel) ⟨by decide, by decide⟩) ⟨cS_blind, va_recv (q := (RX6, TX6, 48)) (ci := 6) (q0 := 0) hK.1 hP rfl mW_0, cS_pre hP hD hK⟩ rfl rfl hl.1 rfl (lv_room (Nat.le_of_ble_eq_true rfl)) dX6_loop_203 ⟨Nat.le_refl _, Nat.le_refl _⟩) hD hS hA (fun u0 H locs hp hP hD hS => ?_)
                  refine lv_iconst (v := 1) hx hb dX6_loop_206 (by decide) ?_
                  obtain ⟨rfl, rfl⟩ := hE
                  exact en_i F hS _ () (by rfl) rfl hP hD (Nat.le_refl _) (Nat.le_refl _) dX6_loop_207
                ·
                  rw [if_neg h175] at hE
                  refine lv_iconst (v := 0) hx hb dX6_loop_140 (by decide) ?_
                  obtain ⟨rfl, rfl⟩ := hE
                  exact en_i F hS _ () (by rfl) rfl hP hD (Nat.le_refl _) (Nat.le_refl _) dX6_loop_141
            ·
              rw [if_pos h164] at hE
              refine lv_aload_n hx hb dX6_loop_108 rfl (lv_at hl 2 rfl) ?_
              refine lv_iload_n hx hb dX6_loop_109 rfl (lv_at hl 0 rfl) ?_
              obtain ⟨R185, r186, hg, hE⟩ := hE
              refine kA_i (va_runV (As := [.int r159]) (rest := []) F.1 (e_bounds l G h q (mf (ma (ma (ma R158 12 r159.toNatClampNeg a1) 9 r159.toNatClampNeg (if r3 = 43 then 1 else 0 : Int32)) 10 r159.toNatClampNeg (if r3 = 63 then 1 else (-1) : Int32)) 17 ((R158.1 17) + 1)) r159 R185 r186 hg _) (cwV 1 hts (aw_V w_1055 w_1057 ws_X6_bounds w_6 w_1058) rfl rfl rfl (by decide +kernel) ⟨by decide, by decide⟩) ⟨cS_blind, va_recv (q := (RX6, TX6, 48)) (ci := 6) (q0 := 0) hK.1 hP rfl mW_0, cS_pre hP hD hK⟩ rfl rfl hl.1 rfl (lv_room (Nat.le_of_ble_eq_true rfl)) dX6_loop_110 ⟨Nat.le_refl _, Nat.le_refl _⟩) hD hS hA (fun r9 u0 H locs hp hP hD hS => ?_)
              have hp := hp.symm; subst hp
              refine lv_if_ne (tgt := 118) hx hb dX6_loop_113 (by decide) (fun h187 => ?_) (fun h187 => ?_)
              ·
                rw [if_neg h187] at hE
                refine lv_aload_n hx hb dX6_loop_118 rfl (lv_at hl 2 rfl) ?_
                refine va_get (D := G.1) (ci := 6) (C := RX6) (T := TX6) (N := 48) hx hb hts inX6 hown hK.1 hP 0 mW_0 rfl 10 (by decide) (hts _ w_856) (fun _ h9 => h9) mF_10 dX6_loop_119 ?_
                refine lv_iload_n hx hb dX6_loop_122 rfl (lv_at hl 0 rfl) ?_
                obtain ⟨hin, hE⟩ := hE
                refine va_iald (D := G.1) hx hb hK.1 hP 5 0 mW_g10 rfl hin dX6_loop_123 ?_
                refine lv_iconst (v := (-1)) hx hb dX6_loop_124 (by decide) ?_
                refine lv_icmp_ne (tgt := 142) hx hb dX6_loop_125 (by decide) (fun h188 => ?_) (fun h188 => ?_)
                ·
                  rw [if_neg h188] at hE
                  refine lv_aload_n hx hb dX6_loop_142 rfl (lv_at hl 2 rfl) ?_
                  refine lv_iconst (v := 0) hx hb dX6_loop_143 (by decide) ?_
                  obtain ⟨R189, r190, hg, hE⟩ := hE
                  refine kA_i (va_runV (As := [.int 0]) (rest := []) F.1 (e_peek l G h q R185 0 R189 r190 hg _) (cwV 1 hts (aw_V w_1031 w_1033 ws_X6_peek w_6 w_1034) rfl rfl rfl (by decide +kernel) ⟨by decide, by decide⟩) ⟨cS_blind, va_recv (q := (RX6, TX6, 48)) (ci := 6) (q0 := 0) hK.1 hP rfl mW_0, cS_pre hP hD hK⟩ rfl rfl hl.1 rfl (lv_room (Nat.le_of_ble_eq_true rfl)) dX6_loop_144 ⟨Nat.le_refl _, Nat.le_refl _⟩) hD hS hA (fun r9 u0 H locs hp hP hD hS => ?_)
                  have hp := hp.symm; subst hp
                  refine lv_istore hx hb dX6_loop_147 hl (by decide) rfl (fun ls hl => ?_)
                  have hl : lv_has ls 5 [(4, .int r190), (3, .int r159), (2, .int r3), (0, .ref h), (1, .int a1)] := hl
                  refine lv_aload_n hx hb dX6_loop_149 rfl (lv_at hl 3 rfl) ?_
                  refine va_get (D := G.1) (ci := 6) (C := RX6) (T := TX6) (N := 48) hx hb hts inX6 hown hK.1 hP 0 mW_0 rfl 11 (by decide) (hts _ w_857) (fun _ h9 => h9) mF_11 dX6_loop_150 ?_
                  refine lv_iload_n hx hb dX6_loop_153 rfl (lv_at hl 1 rfl) ?_
                  refine lv_iload hx hb dX6_loop_154 (lv_at hl 0 rfl) ?_
                  refine lv_bipush (v := 63) hx hb dX6_loop_156 (by decide) ?_
                  refine jn_v (v := (if r190 = 63 then 1 else (if r190 = 43 then 2 else 0 : Int32) : Int32)) (pcM := 177) (rest := [.int r159, .ref (q 11)]) (fun kM => ?_) ?_
                  ·
                    refine lv_icmp_ne (tgt := 165) hx hb dX6_loop_158 (by decide) (fun h192 => ?_) (fun h192 => ?_)
                    ·
                      refine lv_iload hx hb dX6_loop_165 (lv_at hl 0 rfl) ?_
                      refine lv_bipush (v := 43) hx hb dX6_loop_167 (by decide) ?_
                      refine lv_icmp_ne (tgt := 176) hx hb dX6_loop_169 (by decide) (fun h193 => ?_) (fun h193 => ?_)
                      ·
                        refine lv_iconst (v := 0) hx hb dX6_loop_176 (by decide) ?_
                        exact kM _ (by try rw [if_neg h192]; try rw [if_neg h193])
                      ·
                        refine lv_iconst (v := 2) hx hb dX6_loop_172 (by decide) ?_
                        refine lv_goto (tgt := 177) hx hb dX6_loop_173 (by decide) ?_
                        exact kM _ (by try rw [if_neg h192]; try rw [if_pos h193])
                    ·
                      refine lv_iconst (v := 1) hx hb dX6_loop_161 (by decide) ?_
                      refine lv_goto (tgt := 177) hx hb dX6_loop_162 (by decide) ?_
                      exact kM _ (by try rw [if_pos h192])
                  obtain ⟨hin, hE⟩ := hE
                  refine va_iast (D := G.1) hx hb hK.1 hP hD hS 6 0 mW_g11 rfl hin dX6_loop_177 (fun H locs hP hD hS => ?_)
                  rw [mW_a11] at hP hD
                  refine lv_aload_n hx hb dX6_loop_178 rfl (lv_at hl 3 rfl) ?_
                  refine lv_dup hx hb dX6_loop_179 rfl ?_
                  refine va_get (D := G.1) (ci := 6) (C := RX6) (T := TX6) (N := 48) hx hb hts inX6 hown hK.1 hP 0 mW_0 rfl 17 (by decide) (hts _ w_863) (fun _ h9 => h9) mF_17 dX6_loop_180 ?_
                  refine tp_i (R189.1 17) rfl ?_
                  refine lv_aload_n hx hb dX6_loop_183 rfl (lv_at hl 3 rfl) ?_
                  refine va_get (D := G.1) (ci := 6) (C := RX6) (T := TX6) (N := 48) hx hb hts inX6 hown hK.1 hP 0 mW_0 rfl 11 (by decide) (hts _ w_857) (fun _ h9 => h9) mF_11 dX6_loop_184 ?_
                  refine lv_iload_n hx hb dX6_loop_187 rfl (lv_at hl 1 rfl) ?_
                  obtain ⟨hin, hE⟩ := hE
                  refine va_iald (D := G.1) hx hb hK.1 hP 6 0 mW_g11 rfl hin dX6_loop_188 ?_
                  refine tp_i ((ma R189 11 r159.toNatClampNeg (if r190 = 63 then 1 else (if r190 = 43 then 2 else 0 : Int32) : Int32)).2.1 11 r159.toNatClampNeg) rfl ?_
                  refine jn_v (v := (if ((ma R189 11 r159.toNatClampNeg (if r190 = 63 then 1 else (if r190 = 43 then 2 else 0 : Int32) : Int32)).2.1 11 r159.toNatClampNeg) = 0 then 0 else 1 : Int32)) (pcM := 197) (rest := [.int (R189.1 17), .ref h]) (fun kM => ?_) ?_
                  ·
                    refine lv_if_ne (tgt := 196) hx hb dX6_loop_189 (by decide) (fun h195 => ?_) (fun h195 => ?_)
                    ·
                      refine lv_iconst (v := 1) hx hb dX6_loop_196 (by decide) ?_
                      exact kM _ (by try rw [if_neg h195])
                    ·
                      refine lv_iconst (v := 0) hx hb dX6_loop_192 (by decide) ?_
                      refine lv_goto (tgt := 197) hx hb dX6_loop_193 (by decide) ?_
                      exact kM _ (by try rw [if_pos h195])
                  refine lv_iadd hx hb dX6_loop_197 ?_
                  refine va_put (D := G.1) (ci := 6) (v := .int ((R189.1 17) + (if ((ma R189 11 r159.toNatClampNeg (if r190 = 63 then 1 else (if r190 = 43 then 2 else 0 : Int32) : Int32)).2.1 11 r159.toNatClampNeg) = 0 then 0 else 1 : Int32))) (ty := .int) (C := RX6) (T := TX6) (N := 48) hx hb hts inX6 tyX6 tyX6_ok nmX6 hown hK.1 hP hD hS 0 mW_0 rfl 17 (by decide) (hts _ w_863) (fun _ h9 => h9) rfl (by decide +kernel) rfl rfl mF_l17 dX6_loop_198 (fun H locs hP hD hS => ?_)
                  rw [mW_f17] at hP hD
                  refine lv_aload_n hx hb dX6_loop_201 rfl (lv_at hl 3 rfl) ?_
                  refine lv_iload_n hx hb dX6_loop_202 rfl (lv_at hl 1 rfl) ?_
                  obtain ⟨R196, hg, hE⟩ := hE
                  refine kA_v (va_runV (As := [.int r159]) (rest := []) F.1 (e_append l G h q (mf (ma R189 11 r159.toNatClampNeg (if r190 = 63 then 1 else (if r190 = 43 then 2 else 0 : Int32) : Int32)) 17 ((R189.1 17) + (if ((ma R189 11 r159.toNatClampNeg (if r190 = 63 then 1 else (if r190 = 43 then 2 else 0 : Int32) : Int32)).2.1 11 r159.toNatClampNeg) = 0 then 0 else 1 : Int32))) r159 R196 0 hg _) (cwV 1 hts (aw_V w_1051 w_1053 ws_X6_append w_6 w_1054) rfl rfl rfl (by decide +kernel) ⟨by decide, by decide⟩) ⟨cS_blind, va_recv (q := (RX6, TX6, 48)) (ci := 6) (q0 := 0) hK.1 hP rfl mW_0, cS_pre hP hD hK⟩ rfl rfl hl.1 rfl (lv_room (Nat.le_of_ble_eq_true rfl)) dX6_loop_203 ⟨Nat.le_refl _, Nat.le_refl _⟩) hD hS hA (fun u0 H locs hp hP hD hS => ?_)
                  refine lv_iconst (v := 1) hx hb dX6_loop_206 (by decide) ?_
                  obtain ⟨rfl, rfl⟩ := hE
                  exact en_i F hS _ () (by rfl) rfl hP hD (Nat.le_refl _) (Nat.le_refl _) dX6_loop_207
                ·
                  rw [if_pos h188] at hE
                  refine lv_aload_n hx hb dX6_loop_128 rfl (lv_at hl 2 rfl) ?_
                  refine va_get (D := G.1) (ci := 6) (C := RX6) (T := TX6) (N := 48) hx hb hts inX6 hown hK.1 hP 0 mW_0 rfl 22 (by decide) (hts _ w_868) (fun _ h9 => h9) mF_22 dX6_loop_129 ?_
                  refine lv_aload_n hx hb dX6_loop_132 rfl (lv_at hl 2 rfl) ?_
                  refine va_get (D := G.1) (ci := 6) (C := RX6) (T := TX6) (N := 48) hx hb hts inX6 hown hK.1 hP 0 mW_0 rfl 16 (by decide) (hts _ w_862) (fun _ h9 => h9) mF_16 dX6_loop_133 ?_
                  obtain ⟨hin, hE⟩ := hE
                  refine va_zald (D := G.1) hx hb hK.1 hP 15 3 mW_g22 rfl hin dX6_loop_136 ?_
                  refine lv_if_eq (tgt := 142) hx hb dX6_loop_137 (by decide) (fun h198 => ?_) (fun h198 => ?_)
                  ·
                    rw [if_pos h198] at hE
                    refine lv_aload_n hx hb dX6_loop_142 rfl (lv_at hl 2 rfl) ?_
                    refine lv_iconst (v := 0) hx hb dX6_loop_143 (by decide) ?_
                    obtain ⟨R199, r200, hg, hE⟩ := hE
                    refine kA_i (va_runV (As := [.int 0]) (rest := []) F.1 (e_peek l G h q R185 0 R199 r200 hg _) (cwV 1 hts (aw_V w_1031 w_1033 ws_X6_peek w_6 w_1034) rfl rfl rfl (by decide +kernel) ⟨by decide, by decide⟩) ⟨cS_blind, va_recv (q := (RX6, TX6, 48)) (ci := 6) (q0 := 0) hK.1 hP rfl mW_0, cS_pre hP hD hK⟩ rfl rfl hl.1 rfl (lv_room (Nat.le_of_ble_eq_true rfl)) dX6_loop_144 ⟨Nat.le_refl _, Nat.le_refl _⟩) hD hS hA (fun r9 u0 H locs hp hP hD hS => ?_)
                    have hp := hp.symm; subst hp
                    refine lv_istore hx hb dX6_loop_147 hl (by decide) rfl (fun ls hl => ?_)
                    have hl : lv_has ls 5 [(4, .int r200), (3, .int r159), (2, .int r3), (0, .ref h), (1, .int a1)] := hl
                    refine lv_aload_n hx hb dX6_loop_149 rfl (lv_at hl 3 rfl) ?_
                    refine va_get (D := G.1) (ci := 6) (C := RX6) (T := TX6) (N := 48) hx hb hts inX6 hown hK.1 hP 0 mW_0 rfl 11 (by decide) (hts _ w_857) (fun _ h9 => h9) mF_11 dX6_loop_150 ?_
                    refine lv_iload_n hx hb dX6_loop_153 rfl (lv_at hl 1 rfl) ?_
                    refine lv_iload hx hb dX6_loop_154 (lv_at hl 0 rfl) ?_
                    refine lv_bipush (v := 63) hx hb dX6_loop_156 (by decide) ?_
                    refine jn_v (v := (if r200 = 63 then 1 else (if r200 = 43 then 2 else 0 : Int32) : Int32)) (pcM := 177) (rest := [.int r159, .ref (q 11)]) (fun kM => ?_) ?_
                    ·
                      refine lv_icmp_ne (tgt := 165) hx hb dX6_loop_158 (by decide) (fun h202 => ?_) (fun h202 => ?_)
                      ·
                        refine lv_iload hx hb dX6_loop_165 (lv_at hl 0 rfl) ?_
                        refine lv_bipush (v := 43) hx hb dX6_loop_167 (by decide) ?_
                        refine lv_icmp_ne (tgt := 176) hx hb dX6_loop_169 (by decide) (fun h203 => ?_) (fun h203 => ?_)
                        ·
                          refine lv_iconst (v := 0) hx hb dX6_loop_176 (by decide) ?_
                          exact kM _ (by try rw [if_neg h202]; try rw [if_neg h203])
                        ·
                          refine lv_iconst (v := 2) hx hb dX6_loop_172 (by decide) ?_
                          refine lv_goto (tgt := 177) hx hb dX6_loop_173 (by decide) ?_
                          exact kM _ (by try rw [if_neg h202]; try rw [if_pos h203])
                      ·
                        refine lv_iconst (v := 1) hx hb dX6_loop_161 (by decide) ?_
                        refine lv_goto (tgt := 177) hx hb dX6_loop_162 (by decide) ?_
                        exact kM _ (by try rw [if_pos h202])
                    obtain ⟨hin, hE⟩ := hE
                    refine va_iast (D := G.1) hx hb hK.1 hP hD hS 6 0 mW_g11 rfl hin dX6_loop_177 (fun H locs hP hD hS => ?_)
                    rw [mW_a11] at hP hD
                    refine lv_aload_n hx hb dX6_loop_178 rfl (lv_at hl 3 rfl) ?_
                    refine lv_dup hx hb dX6_loop_179 rfl ?_
                    refine va_get (D := G.1) (ci := 6) (C := RX6) (T := TX6) (N := 48) hx hb hts inX6 hown hK.1 hP 0 mW_0 rfl 17 (by decide) (hts _ w_863) (fun _ h9 => h9) mF_17 dX6_loop_180 ?_
                    refine tp_i (R199.1 17) rfl ?_
                    refine lv_aload_n hx hb dX6_loop_183 rfl (lv_at hl 3 rfl) ?_
                    refine va_get (D := G.1) (ci := 6) (C := RX6) (T := TX6) (N := 48) hx hb hts inX6 hown hK.1 hP 0 mW_0 rfl 11 (by decide) (hts _ w_857) (fun _ h9 => h9) mF_11 dX6_loop_184 ?_
                    refine lv_iload_n hx hb dX6_loop_187 rfl (lv_at hl 1 rfl) ?_
                    obtain ⟨hin, hE⟩ := hE
                    refine va_iald (D := G.1) hx hb hK.1 hP 6 0 mW_g11 rfl hin dX6_loop_188 ?_
                    refine tp_i ((ma R199 11 r159.toNatClampNeg (if r200 = 63 then 1 else (if r200 = 43 then 2 else 0 : Int32) : Int32)).2.1 11 r159.toNatClampNeg) rfl ?_
                    refine jn_v (v := (if ((ma R199 11 r159.toNatClampNeg (if r200 = 63 then 1 else (if r200 = 43 then 2 else 0 : Int32) : Int32)).2.1 11 r159.toNatClampNeg) = 0 then 0 else 1 : Int32)) (pcM := 197) (rest := [.int (R199.1 17), .ref h]) (fun kM => ?_) ?_
                    ·
                      refine lv_if_ne (tgt := 196) hx hb dX6_loop_189 (by decide) (fun h205 => ?_) (fun h205 => ?_)
                      ·
                        refine lv_iconst (v := 1) hx hb dX6_loop_196 (by decide) ?_
                        exact kM _ (by try rw [if_neg h205])
                      ·
                        refine lv_iconst (v := 0) hx hb dX6_loop_192 (by decide) ?_
                        refine lv_goto (tgt := 197) hx hb dX6_loop_193 (by decide) ?_
                        exact kM _ (by try rw [if_pos h205])
                    refine lv_iadd hx hb dX6_loop_197 ?_
                    refine va_put (D := G.1) (ci := 6) (v := .int ((R199.1 17) + (if ((ma R199 11 r159.toNatClampNeg (if r200 = 63 then 1 else (if r200 = 43 then 2 else 0 : Int32) : Int32)).2.1 11 r159.toNatClampNeg) = 0 then 0 else 1 : Int32))) (ty := .int) (C := RX6) (T := TX6) (N := 48) hx hb hts inX6 tyX6 tyX6_ok nmX6 hown hK.1 hP hD hS 0 mW_0 rfl 17 (by decide) (hts _ w_863) (fun _ h9 => h9) rfl (by decide +kernel) rfl rfl mF_l17 dX6_loop_198 (fun H locs hP hD hS => ?_)
                    rw [mW_f17] at hP hD
                    refine lv_aload_n hx hb dX6_loop_201 rfl (lv_at hl 3 rfl) ?_
                    refine lv_iload_n hx hb dX6_loop_202 rfl (lv_at hl 1 rfl) ?_
                    obtain ⟨R206, hg, hE⟩ := hE
                    refine kA_v (va_runV (As := [.int r159]) (rest := []) F.1 (e_append l G h q (mf (ma R199 11 r159.toNatClampNeg (if r200 = 63 then 1 else (if r200 = 43 then 2 else 0 : Int32) : Int32)) 17 ((R199.1 17) + (if ((ma R199 11 r159.toNatClampNeg (if r200 = 63 then 1 else (if r200 = 43 then 2 else 0 : Int32) : Int32)).2.1 11 r159.toNatClampNeg) = 0 then 0 else 1 : Int32))) r159 R206 0 hg _) (cwV 1 hts (aw_V w_1051 w_1053 ws_X6_append w_6 w_1054) rfl rfl rfl (by decide +kernel) ⟨by decide, by decide⟩) ⟨cS_blind, va_recv (q := (RX6, TX6, 48)) (ci := 6) (q0 := 0) hK.1 hP rfl mW_0, cS_pre hP hD hK⟩ rfl rfl hl.1 rfl (lv_room (Nat.le_of_ble_eq_true rfl)) dX6_loop_203 ⟨Nat.le_refl _, Nat.le_refl _⟩) hD hS hA (fun u0 H locs hp hP hD hS => ?_)
                    refine lv_iconst (v := 1) hx hb dX6_loop_206 (by decide) ?_
                    obtain ⟨rfl, rfl⟩ := hE
                    exact en_i F hS _ () (by rfl) rfl hP hD (Nat.le_refl _) (Nat.le_refl _) dX6_loop_207
                  ·
                    rw [if_neg h198] at hE
                    refine lv_iconst (v := 0) hx hb dX6_loop_140 (by decide) ?_
                    obtain ⟨rfl, rfl⟩ := hE
                    exact en_i F hS _ () (by rfl) rfl hP hD (Nat.le_refl _) (Nat.le_refl _) dX6_loop_141
              ·
                rw [if_pos h187] at hE
                refine lv_iconst (v := 0) hx hb dX6_loop_116 (by decide) ?_
                obtain ⟨rfl, rfl⟩ := hE
                exact en_i F hS _ () (by rfl) rfl hP hD (Nat.le_refl _) (Nat.le_refl _) dX6_loop_117
          ·
            rw [if_neg h157] at hE
            refine lv_aload_n hx hb dX6_loop_37 rfl (lv_at hl 1 rfl) ?_
            refine lv_iload_n hx hb dX6_loop_38 rfl (lv_at hl 2 rfl) ?_
            obtain ⟨R208, hg, hE⟩ := hE
            refine kA_v (va_runV (As := [.int a1]) (rest := []) F.1 (e_append l G h q R2 a1 R208 0 hg _) (cwV 1 hts (aw_V w_1051 w_1053 ws_X6_append w_6 w_1054) rfl rfl rfl (by decide +kernel) ⟨by decide, by decide⟩) ⟨cS_blind, va_recv (q := (RX6, TX6, 48)) (ci := 6) (q0 := 0) hK.1 hP rfl mW_0, cS_pre hP hD hK⟩ rfl rfl hl.1 rfl (lv_room (Nat.le_of_ble_eq_true rfl)) dX6_loop_39 ⟨Nat.le_refl _, Nat.le_refl _⟩) hD hS hA (fun u0 H locs hp hP hD hS => ?_)
            refine lv_iconst (v := 1) hx hb dX6_loop_42 (by decide) ?_
            obtain ⟨rfl, rfl⟩ := hE
            exact en_i F hS _ () (by rfl) rfl hP hD (Nat.le_refl _) (Nat.le_refl _) dX6_loop_43
  ·
    rw [if_pos h1] at hE
    refine lv_iconst (v := 0) hx hb dX6_loop_5 (by decide) ?_
    obtain ⟨rfl, rfl⟩ := hE
    exact en_i F hS _ () (by rfl) rfl hP hD (Nat.le_refl _) (Nat.le_refl _) dX6_loop_6

theorem dX6_close_0 : decode cX6_close 0 = .ok (.aload_n 0, 1) := by decide +kernel
theorem dX6_close_1 : decode cX6_close 1 = .ok (.getfield 126, 3) := by decide +kernel
theorem dX6_close_4 : decode cX6_close 4 = .ok (.ifCond .ne 5, 3) := by decide +kernel
theorem dX6_close_7 : decode cX6_close 7 = .ok (.iconst 0, 1) := by decide +kernel
theorem dX6_close_8 : decode cX6_close 8 = .ok (.ireturn, 1) := by decide +kernel
theorem dX6_close_9 : decode cX6_close 9 = .ok (.aload_n 0, 1) := by decide +kernel
theorem dX6_close_10 : decode cX6_close 10 = .ok (.dup, 1) := by decide +kernel
theorem dX6_close_11 : decode cX6_close 11 = .ok (.getfield 114, 3) := by decide +kernel
theorem dX6_close_14 : decode cX6_close 14 = .ok (.iconst 1, 1) := by decide +kernel
theorem dX6_close_15 : decode cX6_close 15 = .ok (.iadd, 1) := by decide +kernel
theorem dX6_close_16 : decode cX6_close 16 = .ok (.putfield 114, 3) := by decide +kernel
theorem dX6_close_19 : decode cX6_close 19 = .ok (.aload_n 0, 1) := by decide +kernel
theorem dX6_close_20 : decode cX6_close 20 = .ok (.dup, 1) := by decide +kernel
theorem dX6_close_21 : decode cX6_close 21 = .ok (.getfield 126, 3) := by decide +kernel
theorem dX6_close_24 : decode cX6_close 24 = .ok (.iconst 1, 1) := by decide +kernel
theorem dX6_close_25 : decode cX6_close 25 = .ok (.isub, 1) := by decide +kernel
theorem dX6_close_26 : decode cX6_close 26 = .ok (.putfield 126, 3) := by decide +kernel
theorem dX6_close_29 : decode cX6_close 29 = .ok (.aload_n 0, 1) := by decide +kernel
theorem dX6_close_30 : decode cX6_close 30 = .ok (.aload_n 0, 1) := by decide +kernel
theorem dX6_close_31 : decode cX6_close 31 = .ok (.getfield 41, 3) := by decide +kernel
theorem dX6_close_34 : decode cX6_close 34 = .ok (.aload_n 0, 1) := by decide +kernel
theorem dX6_close_35 : decode cX6_close 35 = .ok (.getfield 126, 3) := by decide +kernel
theorem dX6_close_38 : decode cX6_close 38 = .ok (.iconst 1, 1) := by decide +kernel
theorem dX6_close_39 : decode cX6_close 39 = .ok (.iadd, 1) := by decide +kernel
theorem dX6_close_40 : decode cX6_close 40 = .ok (.iaload, 1) := by decide +kernel
theorem dX6_close_41 : decode cX6_close 41 = .ok (.invokevirtual 162, 3) := by decide +kernel
theorem dX6_close_44 : decode cX6_close 44 = .ok (.ireturn, 1) := by decide +kernel
def E_close (R : RS)  (R' : RS) (r : Int32) : Prop := if (R.1 16) = 0 then (R' = R ∧ r = 0) else (vp_in (((R.1 16) - 1) + 1) 6 ∧ (∃ (R2 : RS) (r3 : Int32), E_loop (mf (mf R 17 ((R.1 17) + 1)) 16 ((R.1 16) - 1)) (R.2.1 18 (((R.1 16) - 1) + 1).toNatClampNeg) R2 r3 ∧ (narrow .boolean (.int r3) = .int r3 ∧ R' = R2 ∧ r = r3)))
set_option maxHeartbeats 4000000 in
set_option maxRecDepth 100000 in
theorem e_close (l : Launch) (G : PG) (h : Nat) (q : Nat → Nat) (R : RS)  (R' : RS) (r : Int32) (hE : E_close R R' r) : Ci l yX6_close (Cond.code yX6_close cX6_close 1 (some .boolean) :: aW) { frames := 3, cells := 0, slots := 0, locals := 66 } G (mW G h q R) [.ref h] (fun (r9 : Int32) (_ : Unit) => r9 = r) (fun (_ : Unit) => mW G h q R') 0 0 := by
  refine ofB (y := yX6_close) (G := G) (cc := cX6_close) (maxL := 1) (ret := (some .boolean)) (Qc := fun A => va_Qi (fun (r9 : Int32) (_ : Unit) => r9 = r) (oB G A (fun (_ : Unit) => mW G h q R')) A) (by decide) rfl ?_
  intro p e s m below meth c A F hK hA hP hD
  have hS : va_S A s.heap s.heap [] := va_S.rf
  have hx := F.1.1; have hb := F.1.2.1; have hml := F.1.2.2.1; have hts := F.1.2.2.2.2
  have hown : s.vm.findClass RX6 = some m.cls := F.1.2.2.2.1
  have hl := lv_entry ([.ref h]) (n := 1) (Nat.le_of_ble_eq_true rfl)
  rw [lg_entry_eq]
  generalize (lg_sl ([.ref h]) ++ List.replicate (1 - (lg_sl ([.ref h])).length) Slot.unset).toArray = ls at hl ⊢
  have hl : lv_has ls 1 [(0, .ref h)] := hl
  unfold E_close at hE
  refine lv_aload_n hx hb dX6_close_0 rfl (lv_at hl 0 rfl) ?_
  refine va_get (D := G.1) (ci := 6) (C := RX6) (T := TX6) (N := 48) hx hb hts inX6 hown hK.1 hP 0 mW_0 rfl 16 (by decide) (hts _ w_862) (fun _ h9 => h9) mF_16 dX6_close_1 ?_
  refine lv_if_ne (tgt := 9) hx hb dX6_close_4 (by decide) (fun h1 => ?_) (fun h1 => ?_)
  ·
    rw [if_neg h1] at hE
    refine lv_aload_n hx hb dX6_close_9 rfl (lv_at hl 0 rfl) ?_
    refine lv_dup hx hb dX6_close_10 rfl ?_
    refine va_get (D := G.1) (ci := 6) (C := RX6) (T := TX6) (N := 48) hx hb hts inX6 hown hK.1 hP 0 mW_0 rfl 17 (by decide) (hts _ w_863) (fun _ h9 => h9) mF_17 dX6_close_11 ?_
    refine lv_iconst (v := 1) hx hb dX6_close_14 (by decide) ?_
    refine lv_iadd hx hb dX6_close_15 ?_
    refine va_put (D := G.1) (ci := 6) (v := .int ((R.1 17) + 1)) (ty := .int) (C := RX6) (T := TX6) (N := 48) hx hb hts inX6 tyX6 tyX6_ok nmX6 hown hK.1 hP hD hS 0 mW_0 rfl 17 (by decide) (hts _ w_863) (fun _ h9 => h9) rfl (by decide +kernel) rfl rfl mF_l17 dX6_close_16 (fun H locs hP hD hS => ?_)
    rw [mW_f17] at hP hD
    refine lv_aload_n hx hb dX6_close_19 rfl (lv_at hl 0 rfl) ?_
    refine lv_dup hx hb dX6_close_20 rfl ?_
    refine va_get (D := G.1) (ci := 6) (C := RX6) (T := TX6) (N := 48) hx hb hts inX6 hown hK.1 hP 0 mW_0 rfl 16 (by decide) (hts _ w_862) (fun _ h9 => h9) mF_16 dX6_close_21 ?_
    refine tp_i (R.1 16) rfl ?_
    refine lv_iconst (v := 1) hx hb dX6_close_24 (by decide) ?_
    refine lv_isub hx hb dX6_close_25 ?_
    refine va_put (D := G.1) (ci := 6) (v := .int ((R.1 16) - 1)) (ty := .int) (C := RX6) (T := TX6) (N := 48) hx hb hts inX6 tyX6 tyX6_ok nmX6 hown hK.1 hP hD hS 0 mW_0 rfl 16 (by decide) (hts _ w_862) (fun _ h9 => h9) rfl (by decide +kernel) rfl rfl mF_l16 dX6_close_26 (fun H locs hP hD hS => ?_)
    rw [mW_f16] at hP hD
    refine lv_aload_n hx hb dX6_close_29 rfl (lv_at hl 0 rfl) ?_
    refine lv_aload_n hx hb dX6_close_30 rfl (lv_at hl 0 rfl) ?_
    refine va_get (D := G.1) (ci := 6) (C := RX6) (T := TX6) (N := 48) hx hb hts inX6 hown hK.1 hP 0 mW_0 rfl 18 (by decide) (hts _ w_864) (fun _ h9 => h9) mF_18 dX6_close_31 ?_
    refine lv_aload_n hx hb dX6_close_34 rfl (lv_at hl 0 rfl) ?_
    refine va_get (D := G.1) (ci := 6) (C := RX6) (T := TX6) (N := 48) hx hb hts inX6 hown hK.1 hP 0 mW_0 rfl 16 (by decide) (hts _ w_862) (fun _ h9 => h9) mF_16 dX6_close_35 ?_
    refine tp_i ((R.1 16) - 1) rfl ?_
    refine lv_iconst (v := 1) hx hb dX6_close_38 (by decide) ?_
    refine lv_iadd hx hb dX6_close_39 ?_
    obtain ⟨hin, hE⟩ := hE
    refine va_iald (D := G.1) hx hb hK.1 hP 11 0 mW_g18 rfl hin dX6_close_40 ?_
    refine tp_i (R.2.1 18 (((R.1 16) - 1) + 1).toNatClampNeg) rfl ?_
    obtain ⟨R2, r3, hg, hE⟩ := hE
    refine kA_i (va_runV (As := [.int (R.2.1 18 (((R.1 16) - 1) + 1).toNatClampNeg)]) (rest := []) F.1 (e_loop l G h q (mf (mf R 17 ((R.1 17) + 1)) 16 ((R.1 16) - 1)) (R.2.1 18 (((R.1 16) - 1) + 1).toNatClampNeg) R2 r3 hg _) (cwV 1 hts (aw_V w_1047 w_1049 ws_X6_loop w_6 w_1050) rfl rfl rfl (by decide +kernel) ⟨by decide, by decide⟩) ⟨cS_blind, va_recv (q := (RX6, TX6, 48)) (ci := 6) (q0 := 0) hK.1 hP rfl mW_0, cS_pre hP hD hK⟩ rfl rfl hl.1 rfl (lv_room (Nat.le_of_ble_eq_true rfl)) dX6_close_41 ⟨Nat.le_refl _, Nat.le_refl _⟩) hD hS hA (fun r9 u0 H locs hp hP hD hS => ?_)
    have hp := hp.symm; subst hp
    obtain ⟨hn, rfl, rfl⟩ := hE
    exact en_i F hS _ () hn rfl hP hD (Nat.le_refl _) (Nat.le_refl _) dX6_close_44
  ·
    rw [if_pos h1] at hE
    refine lv_iconst (v := 0) hx hb dX6_close_7 (by decide) ?_
    obtain ⟨rfl, rfl⟩ := hE
    exact en_i F hS _ () (by rfl) rfl hP hD (Nat.le_refl _) (Nat.le_refl _) dX6_close_8

theorem dX6_item_0 : decode cX6_item 0 = .ok (.aload_n 0, 1) := by decide +kernel
theorem dX6_item_1 : decode cX6_item 1 = .ok (.iconst 0, 1) := by decide +kernel
theorem dX6_item_2 : decode cX6_item 2 = .ok (.invokevirtual 147, 3) := by decide +kernel
theorem dX6_item_5 : decode cX6_item 5 = .ok (.istore_n 2, 1) := by decide +kernel
theorem dX6_item_6 : decode cX6_item 6 = .ok (.iload_n 2, 1) := by decide +kernel
theorem dX6_item_7 : decode cX6_item 7 = .ok (.bipush 92, 2) := by decide +kernel
theorem dX6_item_9 : decode cX6_item 9 = .ok (.if_icmp .ne 64, 3) := by decide +kernel
theorem dX6_item_12 : decode cX6_item 12 = .ok (.aload_n 0, 1) := by decide +kernel
theorem dX6_item_13 : decode cX6_item 13 = .ok (.iconst 1, 1) := by decide +kernel
theorem dX6_item_14 : decode cX6_item 14 = .ok (.invokevirtual 147, 3) := by decide +kernel
theorem dX6_item_17 : decode cX6_item 17 = .ok (.istore_n 3, 1) := by decide +kernel
theorem dX6_item_18 : decode cX6_item 18 = .ok (.aload_n 0, 1) := by decide +kernel
theorem dX6_item_19 : decode cX6_item 19 = .ok (.dup, 1) := by decide +kernel
theorem dX6_item_20 : decode cX6_item 20 = .ok (.getfield 114, 3) := by decide +kernel
theorem dX6_item_23 : decode cX6_item 23 = .ok (.iconst 2, 1) := by decide +kernel
theorem dX6_item_24 : decode cX6_item 24 = .ok (.iadd, 1) := by decide +kernel
theorem dX6_item_25 : decode cX6_item 25 = .ok (.putfield 114, 3) := by decide +kernel
theorem dX6_item_28 : decode cX6_item 28 = .ok (.iload_n 3, 1) := by decide +kernel
theorem dX6_item_29 : decode cX6_item 29 = .ok (.bipush 100, 2) := by decide +kernel
theorem dX6_item_31 : decode cX6_item 31 = .ok (.if_icmp .eq 9, 3) := by decide +kernel
theorem dX6_item_34 : decode cX6_item 34 = .ok (.iload_n 3, 1) := by decide +kernel
theorem dX6_item_35 : decode cX6_item 35 = .ok (.bipush 119, 2) := by decide +kernel
theorem dX6_item_37 : decode cX6_item 37 = .ok (.if_icmp .ne 12, 3) := by decide +kernel
theorem dX6_item_40 : decode cX6_item 40 = .ok (.aload_n 0, 1) := by decide +kernel
theorem dX6_item_41 : decode cX6_item 41 = .ok (.iload_n 1, 1) := by decide +kernel
theorem dX6_item_42 : decode cX6_item 42 = .ok (.iload_n 3, 1) := by decide +kernel
theorem dX6_item_43 : decode cX6_item 43 = .ok (.invokevirtual 175, 3) := by decide +kernel
theorem dX6_item_46 : decode cX6_item 46 = .ok (.goto 25, 3) := by decide +kernel
theorem dX6_item_49 : decode cX6_item 49 = .ok (.iload_n 3, 1) := by decide +kernel
theorem dX6_item_50 : decode cX6_item 50 = .ok (.ifCond .eq 19, 3) := by decide +kernel
theorem dX6_item_53 : decode cX6_item 53 = .ok (.iload_n 3, 1) := by decide +kernel
theorem dX6_item_54 : decode cX6_item 54 = .ok (.invokestatic 183, 3) := by decide +kernel
theorem dX6_item_57 : decode cX6_item 57 = .ok (.ifCond .eq 12, 3) := by decide +kernel
theorem dX6_item_60 : decode cX6_item 60 = .ok (.aload_n 0, 1) := by decide +kernel
theorem dX6_item_61 : decode cX6_item 61 = .ok (.iload_n 1, 1) := by decide +kernel
theorem dX6_item_62 : decode cX6_item 62 = .ok (.iload_n 3, 1) := by decide +kernel
theorem dX6_item_63 : decode cX6_item 63 = .ok (.invokevirtual 136, 3) := by decide +kernel
theorem dX6_item_66 : decode cX6_item 66 = .ok (.goto 5, 3) := by decide +kernel
theorem dX6_item_69 : decode cX6_item 69 = .ok (.iconst 0, 1) := by decide +kernel
theorem dX6_item_70 : decode cX6_item 70 = .ok (.ireturn, 1) := by decide +kernel
theorem dX6_item_71 : decode cX6_item 71 = .ok (.iconst 1, 1) := by decide +kernel
theorem dX6_item_72 : decode cX6_item 72 = .ok (.ireturn, 1) := by decide +kernel
theorem dX6_item_73 : decode cX6_item 73 = .ok (.iload_n 2, 1) := by decide +kernel
theorem dX6_item_74 : decode cX6_item 74 = .ok (.invokestatic 183, 3) := by decide +kernel
theorem dX6_item_77 : decode cX6_item 77 = .ok (.ifCond .eq 5, 3) := by decide +kernel
theorem dX6_item_80 : decode cX6_item 80 = .ok (.iconst 0, 1) := by decide +kernel
theorem dX6_item_81 : decode cX6_item 81 = .ok (.ireturn, 1) := by decide +kernel
theorem dX6_item_82 : decode cX6_item 82 = .ok (.aload_n 0, 1) := by decide +kernel
theorem dX6_item_83 : decode cX6_item 83 = .ok (.iconst 1, 1) := by decide +kernel
theorem dX6_item_84 : decode cX6_item 84 = .ok (.invokevirtual 147, 3) := by decide +kernel
theorem dX6_item_87 : decode cX6_item 87 = .ok (.bipush 45, 2) := by decide +kernel
theorem dX6_item_89 : decode cX6_item 89 = .ok (.if_icmp .eq 21, 3) := by decide +kernel
theorem dX6_item_92 : decode cX6_item 92 = .ok (.aload_n 0, 1) := by decide +kernel
theorem dX6_item_93 : decode cX6_item 93 = .ok (.iload_n 1, 1) := by decide +kernel
theorem dX6_item_94 : decode cX6_item 94 = .ok (.iload_n 2, 1) := by decide +kernel
theorem dX6_item_95 : decode cX6_item 95 = .ok (.invokevirtual 136, 3) := by decide +kernel
theorem dX6_item_98 : decode cX6_item 98 = .ok (.aload_n 0, 1) := by decide +kernel
theorem dX6_item_99 : decode cX6_item 99 = .ok (.dup, 1) := by decide +kernel
theorem dX6_item_100 : decode cX6_item 100 = .ok (.getfield 114, 3) := by decide +kernel
theorem dX6_item_103 : decode cX6_item 103 = .ok (.iconst 1, 1) := by decide +kernel
theorem dX6_item_104 : decode cX6_item 104 = .ok (.iadd, 1) := by decide +kernel
theorem dX6_item_105 : decode cX6_item 105 = .ok (.putfield 114, 3) := by decide +kernel
theorem dX6_item_108 : decode cX6_item 108 = .ok (.iconst 1, 1) := by decide +kernel
theorem dX6_item_109 : decode cX6_item 109 = .ok (.ireturn, 1) := by decide +kernel
theorem dX6_item_110 : decode cX6_item 110 = .ok (.aload_n 0, 1) := by decide +kernel
theorem dX6_item_111 : decode cX6_item 111 = .ok (.iconst 2, 1) := by decide +kernel
theorem dX6_item_112 : decode cX6_item 112 = .ok (.invokevirtual 147, 3) := by decide +kernel
theorem dX6_item_115 : decode cX6_item 115 = .ok (.istore_n 3, 1) := by decide +kernel
theorem dX6_item_116 : decode cX6_item 116 = .ok (.iload_n 3, 1) := by decide +kernel
theorem dX6_item_117 : decode cX6_item 117 = .ok (.invokestatic 183, 3) := by decide +kernel
theorem dX6_item_120 : decode cX6_item 120 = .ok (.ifCond .ne 8, 3) := by decide +kernel
theorem dX6_item_123 : decode cX6_item 123 = .ok (.iload_n 3, 1) := by decide +kernel
theorem dX6_item_124 : decode cX6_item 124 = .ok (.iload_n 2, 1) := by decide +kernel
theorem dX6_item_125 : decode cX6_item 125 = .ok (.if_icmp .ge 5, 3) := by decide +kernel
theorem dX6_item_128 : decode cX6_item 128 = .ok (.iconst 0, 1) := by decide +kernel
theorem dX6_item_129 : decode cX6_item 129 = .ok (.ireturn, 1) := by decide +kernel
theorem dX6_item_130 : decode cX6_item 130 = .ok (.iload_n 2, 1) := by decide +kernel
theorem dX6_item_131 : decode cX6_item 131 = .ok (.istore 4, 2) := by decide +kernel
theorem dX6_item_133 : decode cX6_item 133 = .ok (.iload 4, 2) := by decide +kernel
theorem dX6_item_135 : decode cX6_item 135 = .ok (.iload_n 3, 1) := by decide +kernel
theorem dX6_item_136 : decode cX6_item 136 = .ok (.if_icmp .gt 16, 3) := by decide +kernel
theorem dX6_item_139 : decode cX6_item 139 = .ok (.aload_n 0, 1) := by decide +kernel
theorem dX6_item_140 : decode cX6_item 140 = .ok (.iload_n 1, 1) := by decide +kernel
theorem dX6_item_141 : decode cX6_item 141 = .ok (.iload 4, 2) := by decide +kernel
theorem dX6_item_143 : decode cX6_item 143 = .ok (.invokevirtual 136, 3) := by decide +kernel
theorem dX6_item_146 : decode cX6_item 146 = .ok (.iinc 4 1, 3) := by decide +kernel
theorem dX6_item_149 : decode cX6_item 149 = .ok (.goto (-16), 3) := by decide +kernel
theorem dX6_item_152 : decode cX6_item 152 = .ok (.aload_n 0, 1) := by decide +kernel
theorem dX6_item_153 : decode cX6_item 153 = .ok (.dup, 1) := by decide +kernel
theorem dX6_item_154 : decode cX6_item 154 = .ok (.getfield 114, 3) := by decide +kernel
theorem dX6_item_157 : decode cX6_item 157 = .ok (.iconst 3, 1) := by decide +kernel
theorem dX6_item_158 : decode cX6_item 158 = .ok (.iadd, 1) := by decide +kernel
theorem dX6_item_159 : decode cX6_item 159 = .ok (.putfield 114, 3) := by decide +kernel
theorem dX6_item_162 : decode cX6_item 162 = .ok (.iconst 1, 1) := by decide +kernel
theorem dX6_item_163 : decode cX6_item 163 = .ok (.ireturn, 1) := by decide +kernel
def L_item_133 : Nat → RS → Int32 → Int32 → Int32 → Int32 → RS → Int32 → Prop
  | 0, _, _, _, _, _, _, _ => False
  | nf + 1, R, x1, x2, x3, x4, R', r => if x3 < x4 then (R' = (mf R 17 ((R.1 17) + 3)) ∧ r = 1) else (∃ R30 : RS, E_include R x1 x4 R30 0 ∧ (L_item_133 nf R30 x1 x2 x3 (x4 + 1) R' r))
set_option maxHeartbeats 4000000 in
set_option maxRecDepth 100000 in
theorem L_item_133_ok {l : Launch} {G : PG} {h : Nat} {q : Nat → Nat} {a1 : Int32} {R' : RS} {r : Int32} {p : Program} {e : Env} {s : State} {m : MethodId} {below : List Frame} {meth : Method} {c : Code} {A : Nat → Prop} (F : bF p s m meth c cX6_item 5 (some .boolean) ([.ref h, .int a1] : List Value).toArray yX6_item) (hK : pg_K G s) (hA : ∀ q, s.heap.size ≤ q → A q) : ∀ (nf : Nat) (R : RS) (x1 : Int32) (x2 : Int32) (x3 : Int32) (x4 : Int32) (H : Heap) (locs : List Loc) (ls : Array Slot), lv_has ls 5 [(4, .int x4), (3, .int x3), (2, .int x2), (0, .ref h), (1, .int x1)] → L_item_133 nf R x1 x2 x3 x4 R' r → va_P G.1 vwCl (mW G h q R) H → va_D A (mW G h q R) → va_S A s.heap H locs → W p l e { frames := 2, cells := 0, slots := 0, locals := 45 } s m ([.ref h, .int a1] : List Value).toArray below meth c H locs 0 0 (MQ below (va_Qi (fun (r9 : Int32) (_ : Unit) => r9 = r) (oB G A (fun (_ : Unit) => mW G h q R')) A) ([.ref h, .int a1] : List Value).toArray s 0 0 A) (F0 m 133 ls []) := by
  have hx := F.1.1; have hb := F.1.2.1; have hml := F.1.2.2.1; have hts := F.1.2.2.2.2
  have hown : s.vm.findClass RX6 = some m.cls := F.1.2.2.2.1
  intro nf
  induction nf with
  | zero => intro R x1 x2 x3 x4 H locs ls hl hE; exact hE.elim
  | succ nf ih =>
    intro R x1 x2 x3 x4 H locs ls hl hE hP hD hS
    unfold L_item_133 at hE
    refine lv_iload hx hb dX6_item_133 (lv_at hl 0 rfl) ?_
    refine lv_iload_n hx hb dX6_item_135 rfl (lv_at hl 1 rfl) ?_
    refine lv_icmp_gt (tgt := 152) hx hb dX6_item_136 (by decide) (fun h29 => ?_) (fun h29 => ?_)
    ·
      rw [if_pos h29] at hE
      refine lv_aload_n hx hb dX6_item_152 rfl (lv_at hl 3 rfl) ?_
      refine lv_dup hx hb dX6_item_153 rfl ?_
      refine va_get (D := G.1) (ci := 6) (C := RX6) (T := TX6) (N := 48) hx hb hts inX6 hown hK.1 hP 0 mW_0 rfl 17 (by decide) (hts _ w_863) (fun _ h9 => h9) mF_17 dX6_item_154 ?_
      refine lv_iconst (v := 3) hx hb dX6_item_157 (by decide) ?_
      refine lv_iadd hx hb dX6_item_158 ?_
      refine va_put (D := G.1) (ci := 6) (v := .int ((R.1 17) + 3)) (ty := .int) (C := RX6) (T := TX6) (N := 48) hx hb hts inX6 tyX6 tyX6_ok nmX6 hown hK.1 hP hD hS 0 mW_0 rfl 17 (by decide) (hts _ w_863) (fun _ h9 => h9) rfl (by decide +kernel) rfl rfl mF_l17 dX6_item_159 (fun H locs hP hD hS => ?_)
      rw [mW_f17] at hP hD
      refine lv_iconst (v := 1) hx hb dX6_item_162 (by decide) ?_
      obtain ⟨rfl, rfl⟩ := hE
      exact en_i F hS _ () (by rfl) rfl hP hD (Nat.le_refl _) (Nat.le_refl _) dX6_item_163
    ·
      rw [if_neg h29] at hE
      refine lv_aload_n hx hb dX6_item_139 rfl (lv_at hl 3 rfl) ?_
      refine lv_iload_n hx hb dX6_item_140 rfl (lv_at hl 4 rfl) ?_
      refine lv_iload hx hb dX6_item_141 (lv_at hl 0 rfl) ?_
      obtain ⟨R30, hg, hE⟩ := hE
      refine kA_v (va_runV (As := [.int x1, .int x4]) (rest := []) F.1 (e_include l G h q R x1 x4 R30 0 hg _) (cwV 2 hts (aw_V w_1080 w_1082 ws_X6_include w_6 w_1083) rfl rfl rfl (by decide +kernel) ⟨by decide, by decide⟩) ⟨cS_blind, va_recv (q := (RX6, TX6, 48)) (ci := 6) (q0 := 0) hK.1 hP rfl mW_0, cS_pre hP hD hK⟩ rfl rfl hl.1 rfl (lv_room (Nat.le_of_ble_eq_true rfl)) dX6_item_143 ⟨Nat.le_refl _, Nat.le_refl _⟩) hD hS hA (fun u0 H locs hp hP hD hS => ?_)
      refine lv_iinc (v := (x4 + 1)) (k := 0) hx hb dX6_item_146 hl rfl rfl (by decide) rfl (fun ls hl => ?_)
      have hl : lv_has ls 5 [(4, .int (x4 + 1)), (3, .int x3), (2, .int x2), (0, .ref h), (1, .int x1)] := hl
      refine lv_goto (tgt := 133) hx hb dX6_item_149 (by decide) ?_
      exact ih R30 x1 x2 x3 (x4 + 1) _ _ ls (lv_sub hl [0, 1, 2, 3, 4] rfl) hE hP hD hS
def E_item (R : RS) (a1 : Int32) (R' : RS) (r : Int32) : Prop := ∃ (R1 : RS) (r2 : Int32), E_peek R 0 R1 r2 ∧ (if r2 = 92 then (∃ (R16 : RS) (r17 : Int32), E_peek R1 1 R16 r17 ∧ (if r17 = 100 then (∃ R19 : RS, E_includeKind (mf R16 17 ((R16.1 17) + 2)) a1 r17 R19 0 ∧ (R' = R19 ∧ r = 1)) else (if r17 = 119 then (∃ R27 : RS, E_includeKind (mf R16 17 ((R16.1 17) + 2)) a1 r17 R27 0 ∧ (R' = R27 ∧ r = 1)) else (if r17 = 0 then (R' = (mf R16 17 ((R16.1 17) + 2)) ∧ r = 0) else (∃ r23 : Int32, E_isBarred r17 r23 ∧ (if r23 = 0 then (R' = (mf R16 17 ((R16.1 17) + 2)) ∧ r = 0) else (∃ R25 : RS, E_include (mf R16 17 ((R16.1 17) + 2)) a1 r17 R25 0 ∧ (R' = R25 ∧ r = 1)))))))) else (∃ r4 : Int32, E_isBarred r2 r4 ∧ (if r4 = 0 then (∃ (R6 : RS) (r7 : Int32), E_peek R1 1 R6 r7 ∧ (if r7 = 45 then (∃ (R9 : RS) (r10 : Int32), E_peek R6 2 R9 r10 ∧ (∃ r11 : Int32, E_isBarred r10 r11 ∧ (if r11 = 0 then (if r2 ≤ r10 then (∃ nf : Nat, L_item_133 nf R9 a1 r2 r10 r2 R' r) else (R' = R9 ∧ r = 0)) else (R' = R9 ∧ r = 0)))) else (∃ R14 : RS, E_include R6 a1 r2 R14 0 ∧ (R' = (mf R14 17 ((R14.1 17) + 1)) ∧ r = 1)))) else (R' = R1 ∧ r = 0))))
set_option maxHeartbeats 4000000 in
set_option maxRecDepth 100000 in
theorem e_item (l : Launch) (G : PG) (h : Nat) (q : Nat → Nat) (R : RS) (a1 : Int32) (R' : RS) (r : Int32) (hE : E_item R a1 R' r) : Ci l yX6_item (Cond.code yX6_item cX6_item 5 (some .boolean) :: aW) { frames := 2, cells := 0, slots := 0, locals := 45 } G (mW G h q R) [.ref h, .int a1] (fun (r9 : Int32) (_ : Unit) => r9 = r) (fun (_ : Unit) => mW G h q R') 0 0 := by
  refine ofB (y := yX6_item) (G := G) (cc := cX6_item) (maxL := 5) (ret := (some .boolean)) (Qc := fun A => va_Qi (fun (r9 : Int32) (_ : Unit) => r9 = r) (oB G A (fun (_ : Unit) => mW G h q R')) A) (by decide) rfl ?_
  intro p e s m below meth c A F hK hA hP hD
  have hS : va_S A s.heap s.heap [] := va_S.rf
  have hx := F.1.1; have hb := F.1.2.1; have hml := F.1.2.2.1; have hts := F.1.2.2.2.2
  have hown : s.vm.findClass RX6 = some m.cls := F.1.2.2.2.1
  have hl := lv_entry ([.ref h, .int a1]) (n := 5) (Nat.le_of_ble_eq_true rfl)
  rw [lg_entry_eq]
  generalize (lg_sl ([.ref h, .int a1]) ++ List.replicate (5 - (lg_sl ([.ref h, .int a1])).length) Slot.unset).toArray = ls at hl ⊢
  have hl : lv_has ls 5 [(0, .ref h), (1, .int a1)] := hl
  unfold E_item at hE
  refine lv_aload_n hx hb dX6_item_0 rfl (lv_at hl 0 rfl) ?_
  refine lv_iconst (v := 0) hx hb dX6_item_1 (by decide) ?_
  obtain ⟨R1, r2, hg, hE⟩ := hE
  refine kA_i (va_runV (As := [.int 0]) (rest := []) F.1 (e_peek l G h q R 0 R1 r2 hg _) (cwV 1 hts (aw_V w_1031 w_1033 ws_X6_peek w_6 w_1034) rfl rfl rfl (by decide +kernel) ⟨by decide, by decide⟩) ⟨cS_blind, va_recv (q := (RX6, TX6, 48)) (ci := 6) (q0 := 0) hK.1 hP rfl mW_0, cS_pre hP hD hK⟩ rfl rfl hl.1 rfl (lv_room (Nat.le_of_ble_eq_true rfl)) dX6_item_2 ⟨Nat.le_refl _, Nat.le_refl _⟩) hD hS hA (fun r9 u0 H locs hp hP hD hS => ?_)
  have hp := hp.symm; subst hp
  refine lv_istore_n hx hb dX6_item_5 rfl hl (by decide) rfl (fun ls hl => ?_)
  have hl : lv_has ls 5 [(2, .int r2), (0, .ref h), (1, .int a1)] := hl
  refine lv_iload_n hx hb dX6_item_6 rfl (lv_at hl 0 rfl) ?_
  refine lv_bipush (v := 92) hx hb dX6_item_7 (by decide) ?_
  refine lv_icmp_ne (tgt := 73) hx hb dX6_item_9 (by decide) (fun h3 => ?_) (fun h3 => ?_)
  ·
    rw [if_neg h3] at hE
    refine lv_iload_n hx hb dX6_item_73 rfl (lv_at hl 0 rfl) ?_
    obtain ⟨r4, hg, hE⟩ := hE
    refine kp_i (va_runS (As := [.int r2]) (rest := []) F.1 (e_isBarred l G r2 r4 hg _) (va_cwS 1 hts (aw_S w_1092 w_1093 w_6 w_1094) rfl rfl rfl (by decide +kernel) ⟨by decide, by decide⟩) ⟨cS_blind, cS_pre va_P0 (va_D0 (A := A)) hK⟩ rfl rfl hl.1 rfl (lv_room (Nat.le_of_ble_eq_true rfl)) dX6_item_74 ⟨Nat.le_refl _, Nat.le_refl _⟩) (fun r9 hp => ?_)
    have hp := hp.symm; subst hp
    refine lv_if_eq (tgt := 82) hx hb dX6_item_77 (by decide) (fun h5 => ?_) (fun h5 => ?_)
    ·
      rw [if_pos h5] at hE
      refine lv_aload_n hx hb dX6_item_82 rfl (lv_at hl 1 rfl) ?_
      refine lv_iconst (v := 1) hx hb dX6_item_83 (by decide) ?_
      obtain ⟨R6, r7, hg, hE⟩ := hE
      refine kA_i (va_runV (As := [.int 1]) (rest := []) F.1 (e_peek l G h q R1 1 R6 r7 hg _) (cwV 1 hts (aw_V w_1031 w_1033 ws_X6_peek w_6 w_1034) rfl rfl rfl (by decide +kernel) ⟨by decide, by decide⟩) ⟨cS_blind, va_recv (q := (RX6, TX6, 48)) (ci := 6) (q0 := 0) hK.1 hP rfl mW_0, cS_pre hP hD hK⟩ rfl rfl hl.1 rfl (lv_room (Nat.le_of_ble_eq_true rfl)) dX6_item_84 ⟨Nat.le_refl _, Nat.le_refl _⟩) hD hS hA (fun r9 u0 H locs hp hP hD hS => ?_)
      have hp := hp.symm; subst hp
      refine lv_bipush (v := 45) hx hb dX6_item_87 (by decide) ?_
      refine lv_icmp_eq (tgt := 110) hx hb dX6_item_89 (by decide) (fun h8 => ?_) (fun h8 => ?_)
      ·
        rw [if_pos h8] at hE
        refine lv_aload_n hx hb dX6_item_110 rfl (lv_at hl 1 rfl) ?_
        refine lv_iconst (v := 2) hx hb dX6_item_111 (by decide) ?_
        obtain ⟨R9, r10, hg, hE⟩ := hE
        refine kA_i (va_runV (As := [.int 2]) (rest := []) F.1 (e_peek l G h q R6 2 R9 r10 hg _) (cwV 1 hts (aw_V w_1031 w_1033 ws_X6_peek w_6 w_1034) rfl rfl rfl (by decide +kernel) ⟨by decide, by decide⟩) ⟨cS_blind, va_recv (q := (RX6, TX6, 48)) (ci := 6) (q0 := 0) hK.1 hP rfl mW_0, cS_pre hP hD hK⟩ rfl rfl hl.1 rfl (lv_room (Nat.le_of_ble_eq_true rfl)) dX6_item_112 ⟨Nat.le_refl _, Nat.le_refl _⟩) hD hS hA (fun r9 u0 H locs hp hP hD hS => ?_)
        have hp := hp.symm; subst hp
        refine lv_istore_n hx hb dX6_item_115 rfl hl (by decide) rfl (fun ls hl => ?_)
        have hl : lv_has ls 5 [(3, .int r10), (2, .int r2), (0, .ref h), (1, .int a1)] := hl
        refine lv_iload_n hx hb dX6_item_116 rfl (lv_at hl 0 rfl) ?_
        obtain ⟨r11, hg, hE⟩ := hE
        refine kp_i (va_runS (As := [.int r10]) (rest := []) F.1 (e_isBarred l G r10 r11 hg _) (va_cwS 1 hts (aw_S w_1092 w_1093 w_6 w_1094) rfl rfl rfl (by decide +kernel) ⟨by decide, by decide⟩) ⟨cS_blind, cS_pre va_P0 (va_D0 (A := A)) hK⟩ rfl rfl hl.1 rfl (lv_room (Nat.le_of_ble_eq_true rfl)) dX6_item_117 ⟨Nat.le_refl _, Nat.le_refl _⟩) (fun r9 hp => ?_)
        have hp := hp.symm; subst hp
        refine lv_if_ne (tgt := 128) hx hb dX6_item_120 (by decide) (fun h12 => ?_) (fun h12 => ?_)
        ·
          rw [if_neg h12] at hE
          refine lv_iconst (v := 0) hx hb dX6_item_128 (by decide) ?_
          obtain ⟨rfl, rfl⟩ := hE
          exact en_i F hS _ () (by rfl) rfl hP hD (Nat.le_refl _) (Nat.le_refl _) dX6_item_129
        ·
          rw [if_pos h12] at hE
          refine lv_iload_n hx hb dX6_item_123 rfl (lv_at hl 0 rfl) ?_
          refine lv_iload_n hx hb dX6_item_124 rfl (lv_at hl 1 rfl) ?_
          refine lv_icmp_ge (tgt := 130) hx hb dX6_item_125 (by decide) (fun h13 => ?_) (fun h13 => ?_)
          ·
            rw [if_pos h13] at hE
            refine lv_iload_n hx hb dX6_item_130 rfl (lv_at hl 1 rfl) ?_
            refine lv_istore hx hb dX6_item_131 hl (by decide) rfl (fun ls hl => ?_)
            have hl : lv_has ls 5 [(4, .int r2), (3, .int r10), (2, .int r2), (0, .ref h), (1, .int a1)] := hl
            obtain ⟨nf, hE⟩ := hE
            exact L_item_133_ok F hK hA nf R9 a1 r2 r10 r2 _ _ ls (lv_sub hl [0, 1, 2, 3, 4] rfl) hE hP hD hS
          ·
            rw [if_neg h13] at hE
            refine lv_iconst (v := 0) hx hb dX6_item_128 (by decide) ?_
            obtain ⟨rfl, rfl⟩ := hE
            exact en_i F hS _ () (by rfl) rfl hP hD (Nat.le_refl _) (Nat.le_refl _) dX6_item_129
      ·
        rw [if_neg h8] at hE
        refine lv_aload_n hx hb dX6_item_92 rfl (lv_at hl 1 rfl) ?_
        refine lv_iload_n hx hb dX6_item_93 rfl (lv_at hl 2 rfl) ?_
        refine lv_iload_n hx hb dX6_item_94 rfl (lv_at hl 0 rfl) ?_
        obtain ⟨R14, hg, hE⟩ := hE
        refine kA_v (va_runV (As := [.int a1, .int r2]) (rest := []) F.1 (e_include l G h q R6 a1 r2 R14 0 hg _) (cwV 2 hts (aw_V w_1080 w_1082 ws_X6_include w_6 w_1083) rfl rfl rfl (by decide +kernel) ⟨by decide, by decide⟩) ⟨cS_blind, va_recv (q := (RX6, TX6, 48)) (ci := 6) (q0 := 0) hK.1 hP rfl mW_0, cS_pre hP hD hK⟩ rfl rfl hl.1 rfl (lv_room (Nat.le_of_ble_eq_true rfl)) dX6_item_95 ⟨Nat.le_refl _, Nat.le_refl _⟩) hD hS hA (fun u0 H locs hp hP hD hS => ?_)
        refine lv_aload_n hx hb dX6_item_98 rfl (lv_at hl 1 rfl) ?_
        refine lv_dup hx hb dX6_item_99 rfl ?_
        refine va_get (D := G.1) (ci := 6) (C := RX6) (T := TX6) (N := 48) hx hb hts inX6 hown hK.1 hP 0 mW_0 rfl 17 (by decide) (hts _ w_863) (fun _ h9 => h9) mF_17 dX6_item_100 ?_
        refine lv_iconst (v := 1) hx hb dX6_item_103 (by decide) ?_
        refine lv_iadd hx hb dX6_item_104 ?_
        refine va_put (D := G.1) (ci := 6) (v := .int ((R14.1 17) + 1)) (ty := .int) (C := RX6) (T := TX6) (N := 48) hx hb hts inX6 tyX6 tyX6_ok nmX6 hown hK.1 hP hD hS 0 mW_0 rfl 17 (by decide) (hts _ w_863) (fun _ h9 => h9) rfl (by decide +kernel) rfl rfl mF_l17 dX6_item_105 (fun H locs hP hD hS => ?_)
        rw [mW_f17] at hP hD
        refine lv_iconst (v := 1) hx hb dX6_item_108 (by decide) ?_
        obtain ⟨rfl, rfl⟩ := hE
        exact en_i F hS _ () (by rfl) rfl hP hD (Nat.le_refl _) (Nat.le_refl _) dX6_item_109
    ·
      rw [if_neg h5] at hE
      refine lv_iconst (v := 0) hx hb dX6_item_80 (by decide) ?_
      obtain ⟨rfl, rfl⟩ := hE
      exact en_i F hS _ () (by rfl) rfl hP hD (Nat.le_refl _) (Nat.le_refl _) dX6_item_81
  ·
    rw [if_pos h3] at hE
    refine lv_aload_n hx hb dX6_item_12 rfl (lv_at hl 1 rfl) ?_
    refine lv_iconst (v := 1) hx hb dX6_item_13 (by decide) ?_
    obtain ⟨R16, r17, hg, hE⟩ := hE
    refine kA_i (va_runV (As := [.int 1]) (rest := []) F.1 (e_peek l G h q R1 1 R16 r17 hg _) (cwV 1 hts (aw_V w_1031 w_1033 ws_X6_peek w_6 w_1034) rfl rfl rfl (by decide +kernel) ⟨by decide, by decide⟩) ⟨cS_blind, va_recv (q := (RX6, TX6, 48)) (ci := 6) (q0 := 0) hK.1 hP rfl mW_0, cS_pre hP hD hK⟩ rfl rfl hl.1 rfl (lv_room (Nat.le_of_ble_eq_true rfl)) dX6_item_14 ⟨Nat.le_refl _, Nat.le_refl _⟩) hD hS hA (fun r9 u0 H locs hp hP hD hS => ?_)
    have hp := hp.symm; subst hp
    refine lv_istore_n hx hb dX6_item_17 rfl hl (by decide) rfl (fun ls hl => ?_)
    have hl : lv_has ls 5 [(3, .int r17), (2, .int r2), (0, .ref h), (1, .int a1)] := hl
    refine lv_aload_n hx hb dX6_item_18 rfl (lv_at hl 2 rfl) ?_
    refine lv_dup hx hb dX6_item_19 rfl ?_
    refine va_get (D := G.1) (ci := 6) (C := RX6) (T := TX6) (N := 48) hx hb hts inX6 hown hK.1 hP 0 mW_0 rfl 17 (by decide) (hts _ w_863) (fun _ h9 => h9) mF_17 dX6_item_20 ?_
    refine lv_iconst (v := 2) hx hb dX6_item_23 (by decide) ?_
    refine lv_iadd hx hb dX6_item_24 ?_
    refine va_put (D := G.1) (ci := 6) (v := .int ((R16.1 17) + 2)) (ty := .int) (C := RX6) (T := TX6) (N := 48) hx hb hts inX6 tyX6 tyX6_ok nmX6 hown hK.1 hP hD hS 0 mW_0 rfl 17 (by decide) (hts _ w_863) (fun _ h9 => h9) rfl (by decide +kernel) rfl rfl mF_l17 dX6_item_25 (fun H locs hP hD hS => ?_)
    rw [mW_f17] at hP hD
    refine lv_iload_n hx hb dX6_item_28 rfl (lv_at hl 0 rfl) ?_
    refine lv_bipush (v := 100) hx hb dX6_item_29 (by decide) ?_
    refine lv_icmp_eq (tgt := 40) hx hb dX6_item_31 (by decide) (fun h18 => ?_) (fun h18 => ?_)
    ·
      rw [if_pos h18] at hE
      refine lv_aload_n hx hb dX6_item_40 rfl (lv_at hl 2 rfl) ?_
      refine lv_iload_n hx hb dX6_item_41 rfl (lv_at hl 3 rfl) ?_
      refine lv_iload_n hx hb dX6_item_42 rfl (lv_at hl 0 rfl) ?_
      obtain ⟨R19, hg, hE⟩ := hE
      refine kA_v (va_runV (As := [.int a1, .int r17]) (rest := []) F.1 (e_includeKind l G h q (mf R16 17 ((R16.1 17) + 2)) a1 r17 R19 0 hg _) (cwV 2 hts (aw_V w_1073 w_1075 ws_X6_includeKind w_6 w_1076) rfl rfl rfl (by decide +kernel) ⟨by decide, by decide⟩) ⟨cS_blind, va_recv (q := (RX6, TX6, 48)) (ci := 6) (q0 := 0) hK.1 hP rfl mW_0, cS_pre hP hD hK⟩ rfl rfl hl.1 rfl (lv_room (Nat.le_of_ble_eq_true rfl)) dX6_item_43 ⟨Nat.le_refl _, Nat.le_refl _⟩) hD hS hA (fun u0 H locs hp hP hD hS => ?_)
      refine lv_goto (tgt := 71) hx hb dX6_item_46 (by decide) ?_
      refine lv_iconst (v := 1) hx hb dX6_item_71 (by decide) ?_
      obtain ⟨rfl, rfl⟩ := hE
      exact en_i F hS _ () (by rfl) rfl hP hD (Nat.le_refl _) (Nat.le_refl _) dX6_item_72
    ·
      rw [if_neg h18] at hE
      refine lv_iload_n hx hb dX6_item_34 rfl (lv_at hl 0 rfl) ?_
      refine lv_bipush (v := 119) hx hb dX6_item_35 (by decide) ?_
      refine lv_icmp_ne (tgt := 49) hx hb dX6_item_37 (by decide) (fun h21 => ?_) (fun h21 => ?_)
      ·
        rw [if_neg h21] at hE
        refine lv_iload_n hx hb dX6_item_49 rfl (lv_at hl 0 rfl) ?_
        refine lv_if_eq (tgt := 69) hx hb dX6_item_50 (by decide) (fun h22 => ?_) (fun h22 => ?_)
        ·
          rw [if_pos h22] at hE
          refine lv_iconst (v := 0) hx hb dX6_item_69 (by decide) ?_
          obtain ⟨rfl, rfl⟩ := hE
          exact en_i F hS _ () (by rfl) rfl hP hD (Nat.le_refl _) (Nat.le_refl _) dX6_item_70
        ·
          rw [if_neg h22] at hE
          refine lv_iload_n hx hb dX6_item_53 rfl (lv_at hl 0 rfl) ?_
          obtain ⟨r23, hg, hE⟩ := hE
          refine kp_i (va_runS (As := [.int r17]) (rest := []) F.1 (e_isBarred l G r17 r23 hg _) (va_cwS 1 hts (aw_S w_1092 w_1093 w_6 w_1094) rfl rfl rfl (by decide +kernel) ⟨by decide, by decide⟩) ⟨cS_blind, cS_pre va_P0 (va_D0 (A := A)) hK⟩ rfl rfl hl.1 rfl (lv_room (Nat.le_of_ble_eq_true rfl)) dX6_item_54 ⟨Nat.le_refl _, Nat.le_refl _⟩) (fun r9 hp => ?_)
          have hp := hp.symm; subst hp
          refine lv_if_eq (tgt := 69) hx hb dX6_item_57 (by decide) (fun h24 => ?_) (fun h24 => ?_)
          ·
            rw [if_pos h24] at hE
            refine lv_iconst (v := 0) hx hb dX6_item_69 (by decide) ?_
            obtain ⟨rfl, rfl⟩ := hE
            exact en_i F hS _ () (by rfl) rfl hP hD (Nat.le_refl _) (Nat.le_refl _) dX6_item_70
          ·
            rw [if_neg h24] at hE
            refine lv_aload_n hx hb dX6_item_60 rfl (lv_at hl 2 rfl) ?_
            refine lv_iload_n hx hb dX6_item_61 rfl (lv_at hl 3 rfl) ?_
            refine lv_iload_n hx hb dX6_item_62 rfl (lv_at hl 0 rfl) ?_
            obtain ⟨R25, hg, hE⟩ := hE
            refine kA_v (va_runV (As := [.int a1, .int r17]) (rest := []) F.1 (e_include l G h q (mf R16 17 ((R16.1 17) + 2)) a1 r17 R25 0 hg _) (cwV 2 hts (aw_V w_1080 w_1082 ws_X6_include w_6 w_1083) rfl rfl rfl (by decide +kernel) ⟨by decide, by decide⟩) ⟨cS_blind, va_recv (q := (RX6, TX6, 48)) (ci := 6) (q0 := 0) hK.1 hP rfl mW_0, cS_pre hP hD hK⟩ rfl rfl hl.1 rfl (lv_room (Nat.le_of_ble_eq_true rfl)) dX6_item_63 ⟨Nat.le_refl _, Nat.le_refl _⟩) hD hS hA (fun u0 H locs hp hP hD hS => ?_)
            refine lv_goto (tgt := 71) hx hb dX6_item_66 (by decide) ?_
            refine lv_iconst (v := 1) hx hb dX6_item_71 (by decide) ?_
            obtain ⟨rfl, rfl⟩ := hE
            exact en_i F hS _ () (by rfl) rfl hP hD (Nat.le_refl _) (Nat.le_refl _) dX6_item_72
      ·
        rw [if_pos h21] at hE
        refine lv_aload_n hx hb dX6_item_40 rfl (lv_at hl 2 rfl) ?_
        refine lv_iload_n hx hb dX6_item_41 rfl (lv_at hl 3 rfl) ?_
        refine lv_iload_n hx hb dX6_item_42 rfl (lv_at hl 0 rfl) ?_
        obtain ⟨R27, hg, hE⟩ := hE
        refine kA_v (va_runV (As := [.int a1, .int r17]) (rest := []) F.1 (e_includeKind l G h q (mf R16 17 ((R16.1 17) + 2)) a1 r17 R27 0 hg _) (cwV 2 hts (aw_V w_1073 w_1075 ws_X6_includeKind w_6 w_1076) rfl rfl rfl (by decide +kernel) ⟨by decide, by decide⟩) ⟨cS_blind, va_recv (q := (RX6, TX6, 48)) (ci := 6) (q0 := 0) hK.1 hP rfl mW_0, cS_pre hP hD hK⟩ rfl rfl hl.1 rfl (lv_room (Nat.le_of_ble_eq_true rfl)) dX6_item_43 ⟨Nat.le_refl _, Nat.le_refl _⟩) hD hS hA (fun u0 H locs hp hP hD hS => ?_)
        refine lv_goto (tgt := 71) hx hb dX6_item_46 (by decide) ?_
        refine lv_iconst (v := 1) hx hb dX6_item_71 (by decide) ?_
        obtain ⟨rfl, rfl⟩ := hE
        exact en_i F hS _ () (by rfl) rfl hP hD (Nat.le_refl _) (Nat.le_refl _) dX6_item_72

theorem dX6_items_0 : decode cX6_items 0 = .ok (.aload_n 0, 1) := by decide +kernel
theorem dX6_items_1 : decode cX6_items 1 = .ok (.iconst 2, 1) := by decide +kernel
theorem dX6_items_2 : decode cX6_items 2 = .ok (.invokevirtual 123, 3) := by decide +kernel
theorem dX6_items_5 : decode cX6_items 5 = .ok (.istore_n 1, 1) := by decide +kernel
theorem dX6_items_6 : decode cX6_items 6 = .ok (.aload_n 0, 1) := by decide +kernel
theorem dX6_items_7 : decode cX6_items 7 = .ok (.iconst 0, 1) := by decide +kernel
theorem dX6_items_8 : decode cX6_items 8 = .ok (.invokevirtual 147, 3) := by decide +kernel
theorem dX6_items_11 : decode cX6_items 11 = .ok (.bipush 94, 2) := by decide +kernel
theorem dX6_items_13 : decode cX6_items 13 = .ok (.if_icmp .ne 7, 3) := by decide +kernel
theorem dX6_items_16 : decode cX6_items 16 = .ok (.iconst 1, 1) := by decide +kernel
theorem dX6_items_17 : decode cX6_items 17 = .ok (.goto 4, 3) := by decide +kernel
theorem dX6_items_20 : decode cX6_items 20 = .ok (.iconst 0, 1) := by decide +kernel
theorem dX6_items_21 : decode cX6_items 21 = .ok (.istore_n 2, 1) := by decide +kernel
theorem dX6_items_22 : decode cX6_items 22 = .ok (.iload_n 2, 1) := by decide +kernel
theorem dX6_items_23 : decode cX6_items 23 = .ok (.ifCond .eq 13, 3) := by decide +kernel
theorem dX6_items_26 : decode cX6_items 26 = .ok (.aload_n 0, 1) := by decide +kernel
theorem dX6_items_27 : decode cX6_items 27 = .ok (.dup, 1) := by decide +kernel
theorem dX6_items_28 : decode cX6_items 28 = .ok (.getfield 114, 3) := by decide +kernel
theorem dX6_items_31 : decode cX6_items 31 = .ok (.iconst 1, 1) := by decide +kernel
theorem dX6_items_32 : decode cX6_items 32 = .ok (.iadd, 1) := by decide +kernel
theorem dX6_items_33 : decode cX6_items 33 = .ok (.putfield 114, 3) := by decide +kernel
theorem dX6_items_36 : decode cX6_items 36 = .ok (.iconst 0, 1) := by decide +kernel
theorem dX6_items_37 : decode cX6_items 37 = .ok (.istore_n 3, 1) := by decide +kernel
theorem dX6_items_38 : decode cX6_items 38 = .ok (.aload_n 0, 1) := by decide +kernel
theorem dX6_items_39 : decode cX6_items 39 = .ok (.iconst 0, 1) := by decide +kernel
theorem dX6_items_40 : decode cX6_items 40 = .ok (.invokevirtual 147, 3) := by decide +kernel
theorem dX6_items_43 : decode cX6_items 43 = .ok (.bipush 93, 2) := by decide +kernel
theorem dX6_items_45 : decode cX6_items 45 = .ok (.if_icmp .eq 19, 3) := by decide +kernel
theorem dX6_items_48 : decode cX6_items 48 = .ok (.aload_n 0, 1) := by decide +kernel
theorem dX6_items_49 : decode cX6_items 49 = .ok (.iload_n 1, 1) := by decide +kernel
theorem dX6_items_50 : decode cX6_items 50 = .ok (.invokevirtual 178, 3) := by decide +kernel
theorem dX6_items_53 : decode cX6_items 53 = .ok (.ifCond .ne 5, 3) := by decide +kernel
theorem dX6_items_56 : decode cX6_items 56 = .ok (.iconst (-1), 1) := by decide +kernel
theorem dX6_items_57 : decode cX6_items 57 = .ok (.ireturn, 1) := by decide +kernel
theorem dX6_items_58 : decode cX6_items 58 = .ok (.iinc 3 1, 3) := by decide +kernel
theorem dX6_items_61 : decode cX6_items 61 = .ok (.goto (-23), 3) := by decide +kernel
theorem dX6_items_64 : decode cX6_items 64 = .ok (.aload_n 0, 1) := by decide +kernel
theorem dX6_items_65 : decode cX6_items 65 = .ok (.dup, 1) := by decide +kernel
theorem dX6_items_66 : decode cX6_items 66 = .ok (.getfield 114, 3) := by decide +kernel
theorem dX6_items_69 : decode cX6_items 69 = .ok (.iconst 1, 1) := by decide +kernel
theorem dX6_items_70 : decode cX6_items 70 = .ok (.iadd, 1) := by decide +kernel
theorem dX6_items_71 : decode cX6_items 71 = .ok (.putfield 114, 3) := by decide +kernel
theorem dX6_items_74 : decode cX6_items 74 = .ok (.iload_n 3, 1) := by decide +kernel
theorem dX6_items_75 : decode cX6_items 75 = .ok (.ifCond .ne 5, 3) := by decide +kernel
theorem dX6_items_78 : decode cX6_items 78 = .ok (.iconst (-1), 1) := by decide +kernel
theorem dX6_items_79 : decode cX6_items 79 = .ok (.ireturn, 1) := by decide +kernel
theorem dX6_items_80 : decode cX6_items 80 = .ok (.iload_n 2, 1) := by decide +kernel
theorem dX6_items_81 : decode cX6_items 81 = .ok (.ifCond .eq 35, 3) := by decide +kernel
theorem dX6_items_84 : decode cX6_items 84 = .ok (.aload_n 0, 1) := by decide +kernel
theorem dX6_items_85 : decode cX6_items 85 = .ok (.getfield 34, 3) := by decide +kernel
theorem dX6_items_88 : decode cX6_items 88 = .ok (.iload_n 1, 1) := by decide +kernel
theorem dX6_items_89 : decode cX6_items 89 = .ok (.aload_n 0, 1) := by decide +kernel
theorem dX6_items_90 : decode cX6_items 90 = .ok (.getfield 34, 3) := by decide +kernel
theorem dX6_items_93 : decode cX6_items 93 = .ok (.iload_n 1, 1) := by decide +kernel
theorem dX6_items_94 : decode cX6_items 94 = .ok (.laload, 1) := by decide +kernel
theorem dX6_items_95 : decode cX6_items 95 = .ok (.ldc2_w 181, 3) := by decide +kernel
theorem dX6_items_98 : decode cX6_items 98 = .ok (.lxor, 1) := by decide +kernel
theorem dX6_items_99 : decode cX6_items 99 = .ok (.lastore, 1) := by decide +kernel
theorem dX6_items_100 : decode cX6_items 100 = .ok (.aload_n 0, 1) := by decide +kernel
theorem dX6_items_101 : decode cX6_items 101 = .ok (.getfield 38, 3) := by decide +kernel
theorem dX6_items_104 : decode cX6_items 104 = .ok (.iload_n 1, 1) := by decide +kernel
theorem dX6_items_105 : decode cX6_items 105 = .ok (.aload_n 0, 1) := by decide +kernel
theorem dX6_items_106 : decode cX6_items 106 = .ok (.getfield 38, 3) := by decide +kernel
theorem dX6_items_109 : decode cX6_items 109 = .ok (.iload_n 1, 1) := by decide +kernel
theorem dX6_items_110 : decode cX6_items 110 = .ok (.laload, 1) := by decide +kernel
theorem dX6_items_111 : decode cX6_items 111 = .ok (.ldc2_w 181, 3) := by decide +kernel
theorem dX6_items_114 : decode cX6_items 114 = .ok (.lxor, 1) := by decide +kernel
theorem dX6_items_115 : decode cX6_items 115 = .ok (.lastore, 1) := by decide +kernel
theorem dX6_items_116 : decode cX6_items 116 = .ok (.iload_n 1, 1) := by decide +kernel
theorem dX6_items_117 : decode cX6_items 117 = .ok (.ireturn, 1) := by decide +kernel
def L_items_38 : Nat → RS → Int32 → Int32 → Int32 → RS → Int32 → Prop
  | 0, _, _, _, _, _, _ => False
  | nf + 1, R, x1, x2, x3, R', r => ∃ (R8 : RS) (r9 : Int32), E_peek R 0 R8 r9 ∧ (if r9 = 93 then (if x3 = 0 then (R' = (mf R8 17 ((R8.1 17) + 1)) ∧ r = (-1)) else (if x2 = 0 then (R' = (mf R8 17 ((R8.1 17) + 1)) ∧ r = x1) else (vp_in x1 96 ∧ (vp_in x1 96 ∧ (vp_in x1 96 ∧ (vp_in x1 96 ∧ (R' = (ml (ml (mf R8 17 ((R8.1 17) + 1)) 14 x1.toNatClampNeg ((R8.2.2 14 x1.toNatClampNeg) ^^^ (-1))) 15 x1.toNatClampNeg ((R8.2.2 15 x1.toNatClampNeg) ^^^ (-1))) ∧ r = x1))))))) else (∃ (R13 : RS) (r14 : Int32), E_item R8 x1 R13 r14 ∧ (if r14 = 0 then (R' = R13 ∧ r = (-1)) else (L_items_38 nf R13 x1 x2 (x3 + 1) R' r))))
set_option maxHeartbeats 4000000 in
set_option maxRecDepth 100000 in
theorem L_items_38_ok {l : Launch} {G : PG} {h : Nat} {q : Nat → Nat} {R' : RS} {r : Int32} {p : Program} {e : Env} {s : State} {m : MethodId} {below : List Frame} {meth : Method} {c : Code} {A : Nat → Prop} (F : bF p s m meth c cX6_items 4 (some .int) ([.ref h] : List Value).toArray yX6_items) (hK : pg_K G s) (hA : ∀ q, s.heap.size ≤ q → A q) : ∀ (nf : Nat) (R : RS) (x1 : Int32) (x2 : Int32) (x3 : Int32) (H : Heap) (locs : List Loc) (ls : Array Slot), lv_has ls 4 [(3, .int x3), (2, .int x2), (1, .int x1), (0, .ref h)] → L_items_38 nf R x1 x2 x3 R' r → va_P G.1 vwCl (mW G h q R) H → va_D A (mW G h q R) → va_S A s.heap H locs → W p l e { frames := 3, cells := 0, slots := 0, locals := 69 } s m ([.ref h] : List Value).toArray below meth c H locs 0 0 (MQ below (va_Qi (fun (r9 : Int32) (_ : Unit) => r9 = r) (oB G A (fun (_ : Unit) => mW G h q R')) A) ([.ref h] : List Value).toArray s 0 0 A) (F0 m 38 ls []) := by
  have hx := F.1.1; have hb := F.1.2.1; have hml := F.1.2.2.1; have hts := F.1.2.2.2.2
  have hown : s.vm.findClass RX6 = some m.cls := F.1.2.2.2.1
  intro nf
  induction nf with
  | zero => intro R x1 x2 x3 H locs ls hl hE; exact hE.elim
  | succ nf ih =>
    intro R x1 x2 x3 H locs ls hl hE hP hD hS
    unfold L_items_38 at hE
    refine lv_aload_n hx hb dX6_items_38 rfl (lv_at hl 3 rfl) ?_
    refine lv_iconst (v := 0) hx hb dX6_items_39 (by decide) ?_
    obtain ⟨R8, r9, hg, hE⟩ := hE
    refine kA_i (va_runV (As := [.int 0]) (rest := []) F.1 (e_peek l G h q R 0 R8 r9 hg _) (cwV 1 hts (aw_V w_1031 w_1033 ws_X6_peek w_6 w_1034) rfl rfl rfl (by decide +kernel) ⟨by decide, by decide⟩) ⟨cS_blind, va_recv (q := (RX6, TX6, 48)) (ci := 6) (q0 := 0) hK.1 hP rfl mW_0, cS_pre hP hD hK⟩ rfl rfl hl.1 rfl (lv_room (Nat.le_of_ble_eq_true rfl)) dX6_items_40 ⟨Nat.le_refl _, Nat.le_refl _⟩) hD hS hA (fun r9 u0 H locs hp hP hD hS => ?_)
    have hp := hp.symm; subst hp
    refine lv_bipush (v := 93) hx hb dX6_items_43 (by decide) ?_
    refine lv_icmp_eq (tgt := 64) hx hb dX6_items_45 (by decide) (fun h10 => ?_) (fun h10 => ?_)
    ·
      rw [if_pos h10] at hE
      refine lv_aload_n hx hb dX6_items_64 rfl (lv_at hl 3 rfl) ?_
      refine lv_dup hx hb dX6_items_65 rfl ?_
      refine va_get (D := G.1) (ci := 6) (C := RX6) (T := TX6) (N := 48) hx hb hts inX6 hown hK.1 hP 0 mW_0 rfl 17 (by decide) (hts _ w_863) (fun _ h9 => h9) mF_17 dX6_items_66 ?_
      refine lv_iconst (v := 1) hx hb dX6_items_69 (by decide) ?_
      refine lv_iadd hx hb dX6_items_70 ?_
      refine va_put (D := G.1) (ci := 6) (v := .int ((R8.1 17) + 1)) (ty := .int) (C := RX6) (T := TX6) (N := 48) hx hb hts inX6 tyX6 tyX6_ok nmX6 hown hK.1 hP hD hS 0 mW_0 rfl 17 (by decide) (hts _ w_863) (fun _ h9 => h9) rfl (by decide +kernel) rfl rfl mF_l17 dX6_items_71 (fun H locs hP hD hS => ?_)
      rw [mW_f17] at hP hD
      refine lv_iload_n hx hb dX6_items_74 rfl (lv_at hl 0 rfl) ?_
      refine lv_if_ne (tgt := 80) hx hb dX6_items_75 (by decide) (fun h11 => ?_) (fun h11 => ?_)
      ·
        rw [if_neg h11] at hE
        refine lv_iload_n hx hb dX6_items_80 rfl (lv_at hl 1 rfl) ?_
        refine lv_if_eq (tgt := 116) hx hb dX6_items_81 (by decide) (fun h12 => ?_) (fun h12 => ?_)
        ·
          rw [if_pos h12] at hE
          refine lv_iload_n hx hb dX6_items_116 rfl (lv_at hl 2 rfl) ?_
          obtain ⟨rfl, rfl⟩ := hE
          exact en_i F hS _ () (by rfl) rfl hP hD (Nat.le_refl _) (Nat.le_refl _) dX6_items_117
        ·
          rw [if_neg h12] at hE
          refine lv_aload_n hx hb dX6_items_84 rfl (lv_at hl 3 rfl) ?_
          refine va_get (D := G.1) (ci := 6) (C := RX6) (T := TX6) (N := 48) hx hb hts inX6 hown hK.1 hP 0 mW_0 rfl 14 (by decide) (hts _ w_860) (fun _ h9 => h9) mF_14 dX6_items_85 ?_
          refine lv_iload_n hx hb dX6_items_88 rfl (lv_at hl 2 rfl) ?_
          refine lv_aload_n hx hb dX6_items_89 rfl (lv_at hl 3 rfl) ?_
          refine va_get (D := G.1) (ci := 6) (C := RX6) (T := TX6) (N := 48) hx hb hts inX6 hown hK.1 hP 0 mW_0 rfl 14 (by decide) (hts _ w_860) (fun _ h9 => h9) mF_14 dX6_items_90 ?_
          refine lv_iload_n hx hb dX6_items_93 rfl (lv_at hl 2 rfl) ?_
          obtain ⟨hin, hE⟩ := hE
          refine va_lald (D := G.1) hx hb hK.1 hP 9 1 mW_g14 rfl hin dX6_items_94 ?_
          refine tp_l (R8.2.2 14 x1.toNatClampNeg) rfl ?_
          refine lv_ldc2 (v := (-1)) hx hb hown (hts _ w_1095) dX6_items_95 ?_
          refine lv_lxor hx hb dX6_items_98 ?_
          obtain ⟨hin, hE⟩ := hE
          refine va_last (D := G.1) hx hb hK.1 hP hD hS 9 1 mW_g14 rfl hin dX6_items_99 (fun H locs hP hD hS => ?_)
          rw [mW_a14] at hP hD
          refine lv_aload_n hx hb dX6_items_100 rfl (lv_at hl 3 rfl) ?_
          refine va_get (D := G.1) (ci := 6) (C := RX6) (T := TX6) (N := 48) hx hb hts inX6 hown hK.1 hP 0 mW_0 rfl 15 (by decide) (hts _ w_861) (fun _ h9 => h9) mF_15 dX6_items_101 ?_
          refine lv_iload_n hx hb dX6_items_104 rfl (lv_at hl 2 rfl) ?_
          refine lv_aload_n hx hb dX6_items_105 rfl (lv_at hl 3 rfl) ?_
          refine va_get (D := G.1) (ci := 6) (C := RX6) (T := TX6) (N := 48) hx hb hts inX6 hown hK.1 hP 0 mW_0 rfl 15 (by decide) (hts _ w_861) (fun _ h9 => h9) mF_15 dX6_items_106 ?_
          refine lv_iload_n hx hb dX6_items_109 rfl (lv_at hl 2 rfl) ?_
          obtain ⟨hin, hE⟩ := hE
          refine va_lald (D := G.1) hx hb hK.1 hP 10 1 mW_g15 rfl hin dX6_items_110 ?_
          refine tp_l (R8.2.2 15 x1.toNatClampNeg) rfl ?_
          refine lv_ldc2 (v := (-1)) hx hb hown (hts _ w_1095) dX6_items_111 ?_
          refine lv_lxor hx hb dX6_items_114 ?_
          obtain ⟨hin, hE⟩ := hE
          refine va_last (D := G.1) hx hb hK.1 hP hD hS 10 1 mW_g15 rfl hin dX6_items_115 (fun H locs hP hD hS => ?_)
          rw [mW_a15] at hP hD
          refine lv_iload_n hx hb dX6_items_116 rfl (lv_at hl 2 rfl) ?_
          obtain ⟨rfl, rfl⟩ := hE
          exact en_i F hS _ () (by rfl) rfl hP hD (Nat.le_refl _) (Nat.le_refl _) dX6_items_117
      ·
        rw [if_pos h11] at hE
        refine lv_iconst (v := (-1)) hx hb dX6_items_78 (by decide) ?_
        obtain ⟨rfl, rfl⟩ := hE
        exact en_i F hS _ () (by rfl) rfl hP hD (Nat.le_refl _) (Nat.le_refl _) dX6_items_79
    ·
      rw [if_neg h10] at hE
      refine lv_aload_n hx hb dX6_items_48 rfl (lv_at hl 3 rfl) ?_
      refine lv_iload_n hx hb dX6_items_49 rfl (lv_at hl 2 rfl) ?_
      obtain ⟨R13, r14, hg, hE⟩ := hE
      refine kA_i (va_runV (As := [.int x1]) (rest := []) F.1 (e_item l G h q R8 x1 R13 r14 hg _) (cwV 1 hts (aw_V w_1088 w_1090 ws_X6_item w_6 w_1091) rfl rfl rfl (by decide +kernel) ⟨by decide, by decide⟩) ⟨cS_blind, va_recv (q := (RX6, TX6, 48)) (ci := 6) (q0 := 0) hK.1 hP rfl mW_0, cS_pre hP hD hK⟩ rfl rfl hl.1 rfl (lv_room (Nat.le_of_ble_eq_true rfl)) dX6_items_50 ⟨Nat.le_refl _, Nat.le_refl _⟩) hD hS hA (fun r9 u0 H locs hp hP hD hS => ?_)
      have hp := hp.symm; subst hp
      refine lv_if_ne (tgt := 58) hx hb dX6_items_53 (by decide) (fun h15 => ?_) (fun h15 => ?_)
      ·
        rw [if_neg h15] at hE
        refine lv_iinc (v := (x3 + 1)) (k := 0) hx hb dX6_items_58 hl rfl rfl (by decide) rfl (fun ls hl => ?_)
        have hl : lv_has ls 4 [(3, .int (x3 + 1)), (2, .int x2), (1, .int x1), (0, .ref h)] := hl
        refine lv_goto (tgt := 38) hx hb dX6_items_61 (by decide) ?_
        exact ih R13 x1 x2 (x3 + 1) _ _ ls (lv_sub hl [0, 1, 2, 3] rfl) hE hP hD hS
      ·
        rw [if_pos h15] at hE
        refine lv_iconst (v := (-1)) hx hb dX6_items_56 (by decide) ?_
        obtain ⟨rfl, rfl⟩ := hE
        exact en_i F hS _ () (by rfl) rfl hP hD (Nat.le_refl _) (Nat.le_refl _) dX6_items_57
def E_items (R : RS)  (R' : RS) (r : Int32) : Prop := ∃ (R1 : RS) (r2 : Int32), E_create R 2 R1 r2 ∧ (∃ (R3 : RS) (r4 : Int32), E_peek R1 0 R3 r4 ∧ (if (if r4 = 94 then 1 else 0 : Int32) = 0 then (∃ nf : Nat, L_items_38 nf R3 r2 (if r4 = 94 then 1 else 0 : Int32) 0 R' r) else (∃ nf : Nat, L_items_38 nf (mf R3 17 ((R3.1 17) + 1)) r2 (if r4 = 94 then 1 else 0 : Int32) 0 R' r)))
set_option maxHeartbeats 4000000 in
set_option maxRecDepth 100000 in
theorem e_items (l : Launch) (G : PG) (h : Nat) (q : Nat → Nat) (R : RS)  (R' : RS) (r : Int32) (hE : E_items R R' r) : Ci l yX6_items (Cond.code yX6_items cX6_items 4 (some .int) :: aW) { frames := 3, cells := 0, slots := 0, locals := 69 } G (mW G h q R) [.ref h] (fun (r9 : Int32) (_ : Unit) => r9 = r) (fun (_ : Unit) => mW G h q R') 0 0 := by
  refine ofB (y := yX6_items) (G := G) (cc := cX6_items) (maxL := 4) (ret := (some .int)) (Qc := fun A => va_Qi (fun (r9 : Int32) (_ : Unit) => r9 = r) (oB G A (fun (_ : Unit) => mW G h q R')) A) (by decide) rfl ?_
  intro p e s m below meth c A F hK hA hP hD
  have hS : va_S A s.heap s.heap [] := va_S.rf
  have hx := F.1.1; have hb := F.1.2.1; have hml := F.1.2.2.1; have hts := F.1.2.2.2.2
  have hown : s.vm.findClass RX6 = some m.cls := F.1.2.2.2.1
  have hl := lv_entry ([.ref h]) (n := 4) (Nat.le_of_ble_eq_true rfl)
  rw [lg_entry_eq]
  generalize (lg_sl ([.ref h]) ++ List.replicate (4 - (lg_sl ([.ref h])).length) Slot.unset).toArray = ls at hl ⊢
  have hl : lv_has ls 4 [(0, .ref h)] := hl
  unfold E_items at hE
  refine lv_aload_n hx hb dX6_items_0 rfl (lv_at hl 0 rfl) ?_
  refine lv_iconst (v := 2) hx hb dX6_items_1 (by decide) ?_
  obtain ⟨R1, r2, hg, hE⟩ := hE
  refine kA_i (va_runV (As := [.int 2]) (rest := []) F.1 (e_create l G h q R 2 R1 r2 hg _) (cwV 1 hts (aw_V w_1023 w_1025 ws_X6_create w_6 w_1026) rfl rfl rfl (by decide +kernel) ⟨by decide, by decide⟩) ⟨cS_blind, va_recv (q := (RX6, TX6, 48)) (ci := 6) (q0 := 0) hK.1 hP rfl mW_0, cS_pre hP hD hK⟩ rfl rfl hl.1 rfl (lv_room (Nat.le_of_ble_eq_true rfl)) dX6_items_2 ⟨Nat.le_refl _, Nat.le_refl _⟩) hD hS hA (fun r9 u0 H locs hp hP hD hS => ?_)
  have hp := hp.symm; subst hp
  refine lv_istore_n hx hb dX6_items_5 rfl hl (by decide) rfl (fun ls hl => ?_)
  have hl : lv_has ls 4 [(1, .int r2), (0, .ref h)] := hl
  refine lv_aload_n hx hb dX6_items_6 rfl (lv_at hl 1 rfl) ?_
  refine lv_iconst (v := 0) hx hb dX6_items_7 (by decide) ?_
  obtain ⟨R3, r4, hg, hE⟩ := hE
  refine kA_i (va_runV (As := [.int 0]) (rest := []) F.1 (e_peek l G h q R1 0 R3 r4 hg _) (cwV 1 hts (aw_V w_1031 w_1033 ws_X6_peek w_6 w_1034) rfl rfl rfl (by decide +kernel) ⟨by decide, by decide⟩) ⟨cS_blind, va_recv (q := (RX6, TX6, 48)) (ci := 6) (q0 := 0) hK.1 hP rfl mW_0, cS_pre hP hD hK⟩ rfl rfl hl.1 rfl (lv_room (Nat.le_of_ble_eq_true rfl)) dX6_items_8 ⟨Nat.le_refl _, Nat.le_refl _⟩) hD hS hA (fun r9 u0 H locs hp hP hD hS => ?_)
  have hp := hp.symm; subst hp
  refine lv_bipush (v := 94) hx hb dX6_items_11 (by decide) ?_
  refine jn_v (v := (if r4 = 94 then 1 else 0 : Int32)) (pcM := 21) (rest := []) (fun kM => ?_) ?_
  ·
    refine lv_icmp_ne (tgt := 20) hx hb dX6_items_13 (by decide) (fun h6 => ?_) (fun h6 => ?_)
    ·
      refine lv_iconst (v := 0) hx hb dX6_items_20 (by decide) ?_
      exact kM _ (by try rw [if_neg h6])
    ·
      refine lv_iconst (v := 1) hx hb dX6_items_16 (by decide) ?_
      refine lv_goto (tgt := 21) hx hb dX6_items_17 (by decide) ?_
      exact kM _ (by try rw [if_pos h6])
  refine lv_istore_n hx hb dX6_items_21 rfl hl (by decide) rfl (fun ls hl => ?_)
  have hl : lv_has ls 4 [(2, .int (if r4 = 94 then 1 else 0 : Int32)), (1, .int r2), (0, .ref h)] := hl
  refine lv_iload_n hx hb dX6_items_22 rfl (lv_at hl 0 rfl) ?_
  refine lv_if_eq (tgt := 36) hx hb dX6_items_23 (by decide) (fun h7 => ?_) (fun h7 => ?_)
  ·
    rw [if_pos h7] at hE
    refine lv_iconst (v := 0) hx hb dX6_items_36 (by decide) ?_
    refine lv_istore_n hx hb dX6_items_37 rfl hl (by decide) rfl (fun ls hl => ?_)
    have hl : lv_has ls 4 [(3, .int 0), (2, .int (if r4 = 94 then 1 else 0 : Int32)), (1, .int r2), (0, .ref h)] := hl
    obtain ⟨nf, hE⟩ := hE
    exact L_items_38_ok F hK hA nf R3 r2 (if r4 = 94 then 1 else 0 : Int32) 0 _ _ ls (lv_sub hl [0, 1, 2, 3] rfl) hE hP hD hS
  ·
    rw [if_neg h7] at hE
    refine lv_aload_n hx hb dX6_items_26 rfl (lv_at hl 2 rfl) ?_
    refine lv_dup hx hb dX6_items_27 rfl ?_
    refine va_get (D := G.1) (ci := 6) (C := RX6) (T := TX6) (N := 48) hx hb hts inX6 hown hK.1 hP 0 mW_0 rfl 17 (by decide) (hts _ w_863) (fun _ h9 => h9) mF_17 dX6_items_28 ?_
    refine lv_iconst (v := 1) hx hb dX6_items_31 (by decide) ?_
    refine lv_iadd hx hb dX6_items_32 ?_
    refine va_put (D := G.1) (ci := 6) (v := .int ((R3.1 17) + 1)) (ty := .int) (C := RX6) (T := TX6) (N := 48) hx hb hts inX6 tyX6 tyX6_ok nmX6 hown hK.1 hP hD hS 0 mW_0 rfl 17 (by decide) (hts _ w_863) (fun _ h9 => h9) rfl (by decide +kernel) rfl rfl mF_l17 dX6_items_33 (fun H locs hP hD hS => ?_)
    rw [mW_f17] at hP hD
    refine lv_iconst (v := 0) hx hb dX6_items_36 (by decide) ?_
    refine lv_istore_n hx hb dX6_items_37 rfl hl (by decide) rfl (fun ls hl => ?_)
    have hl : lv_has ls 4 [(3, .int 0), (2, .int (if r4 = 94 then 1 else 0 : Int32)), (1, .int r2), (0, .ref h)] := hl
    obtain ⟨nf, hE⟩ := hE
    exact L_items_38_ok F hK hA nf (mf R3 17 ((R3.1 17) + 1)) r2 (if r4 = 94 then 1 else 0 : Int32) 0 _ _ ls (lv_sub hl [0, 1, 2, 3] rfl) hE hP hD hS

theorem dX6_escape_0 : decode cX6_escape 0 = .ok (.aload_n 0, 1) := by decide +kernel
theorem dX6_escape_1 : decode cX6_escape 1 = .ok (.iconst 0, 1) := by decide +kernel
theorem dX6_escape_2 : decode cX6_escape 2 = .ok (.invokevirtual 147, 3) := by decide +kernel
theorem dX6_escape_5 : decode cX6_escape 5 = .ok (.istore_n 1, 1) := by decide +kernel
theorem dX6_escape_6 : decode cX6_escape 6 = .ok (.aload_n 0, 1) := by decide +kernel
theorem dX6_escape_7 : decode cX6_escape 7 = .ok (.dup, 1) := by decide +kernel
theorem dX6_escape_8 : decode cX6_escape 8 = .ok (.getfield 114, 3) := by decide +kernel
theorem dX6_escape_11 : decode cX6_escape 11 = .ok (.iconst 1, 1) := by decide +kernel
theorem dX6_escape_12 : decode cX6_escape 12 = .ok (.iadd, 1) := by decide +kernel
theorem dX6_escape_13 : decode cX6_escape 13 = .ok (.putfield 114, 3) := by decide +kernel
theorem dX6_escape_16 : decode cX6_escape 16 = .ok (.iload_n 1, 1) := by decide +kernel
theorem dX6_escape_17 : decode cX6_escape 17 = .ok (.bipush 49, 2) := by decide +kernel
theorem dX6_escape_19 : decode cX6_escape 19 = .ok (.if_icmp .lt 53, 3) := by decide +kernel
theorem dX6_escape_22 : decode cX6_escape 22 = .ok (.iload_n 1, 1) := by decide +kernel
theorem dX6_escape_23 : decode cX6_escape 23 = .ok (.bipush 52, 2) := by decide +kernel
theorem dX6_escape_25 : decode cX6_escape 25 = .ok (.if_icmp .gt 47, 3) := by decide +kernel
theorem dX6_escape_28 : decode cX6_escape 28 = .ok (.iload_n 1, 1) := by decide +kernel
theorem dX6_escape_29 : decode cX6_escape 29 = .ok (.bipush 48, 2) := by decide +kernel
theorem dX6_escape_31 : decode cX6_escape 31 = .ok (.isub, 1) := by decide +kernel
theorem dX6_escape_32 : decode cX6_escape 32 = .ok (.aload_n 0, 1) := by decide +kernel
theorem dX6_escape_33 : decode cX6_escape 33 = .ok (.getfield 140, 3) := by decide +kernel
theorem dX6_escape_36 : decode cX6_escape 36 = .ok (.if_icmp .gt 15, 3) := by decide +kernel
theorem dX6_escape_39 : decode cX6_escape 39 = .ok (.aload_n 0, 1) := by decide +kernel
theorem dX6_escape_40 : decode cX6_escape 40 = .ok (.getfield 53, 3) := by decide +kernel
theorem dX6_escape_43 : decode cX6_escape 43 = .ok (.aload_n 0, 1) := by decide +kernel
theorem dX6_escape_44 : decode cX6_escape 44 = .ok (.getfield 126, 3) := by decide +kernel
theorem dX6_escape_47 : decode cX6_escape 47 = .ok (.baload, 1) := by decide +kernel
theorem dX6_escape_48 : decode cX6_escape 48 = .ok (.ifCond .eq 5, 3) := by decide +kernel
theorem dX6_escape_51 : decode cX6_escape 51 = .ok (.iconst (-1), 1) := by decide +kernel
theorem dX6_escape_52 : decode cX6_escape 52 = .ok (.ireturn, 1) := by decide +kernel
theorem dX6_escape_53 : decode cX6_escape 53 = .ok (.aload_n 0, 1) := by decide +kernel
theorem dX6_escape_54 : decode cX6_escape 54 = .ok (.bipush 7, 2) := by decide +kernel
theorem dX6_escape_56 : decode cX6_escape 56 = .ok (.invokevirtual 123, 3) := by decide +kernel
theorem dX6_escape_59 : decode cX6_escape 59 = .ok (.istore_n 2, 1) := by decide +kernel
theorem dX6_escape_60 : decode cX6_escape 60 = .ok (.aload_n 0, 1) := by decide +kernel
theorem dX6_escape_61 : decode cX6_escape 61 = .ok (.getfield 19, 3) := by decide +kernel
theorem dX6_escape_64 : decode cX6_escape 64 = .ok (.iload_n 2, 1) := by decide +kernel
theorem dX6_escape_65 : decode cX6_escape 65 = .ok (.iload_n 1, 1) := by decide +kernel
theorem dX6_escape_66 : decode cX6_escape 66 = .ok (.bipush 48, 2) := by decide +kernel
theorem dX6_escape_68 : decode cX6_escape 68 = .ok (.isub, 1) := by decide +kernel
theorem dX6_escape_69 : decode cX6_escape 69 = .ok (.iastore, 1) := by decide +kernel
theorem dX6_escape_70 : decode cX6_escape 70 = .ok (.iload_n 2, 1) := by decide +kernel
theorem dX6_escape_71 : decode cX6_escape 71 = .ok (.ireturn, 1) := by decide +kernel
theorem dX6_escape_72 : decode cX6_escape 72 = .ok (.iload_n 1, 1) := by decide +kernel
theorem dX6_escape_73 : decode cX6_escape 73 = .ok (.bipush 98, 2) := by decide +kernel
theorem dX6_escape_75 : decode cX6_escape 75 = .ok (.if_icmp .eq 9, 3) := by decide +kernel
theorem dX6_escape_78 : decode cX6_escape 78 = .ok (.iload_n 1, 1) := by decide +kernel
theorem dX6_escape_79 : decode cX6_escape 79 = .ok (.bipush 66, 2) := by decide +kernel
theorem dX6_escape_81 : decode cX6_escape 81 = .ok (.if_icmp .ne 20, 3) := by decide +kernel
theorem dX6_escape_84 : decode cX6_escape 84 = .ok (.aload_n 0, 1) := by decide +kernel
theorem dX6_escape_85 : decode cX6_escape 85 = .ok (.iload_n 1, 1) := by decide +kernel
theorem dX6_escape_86 : decode cX6_escape 86 = .ok (.bipush 98, 2) := by decide +kernel
theorem dX6_escape_88 : decode cX6_escape 88 = .ok (.if_icmp .ne 7, 3) := by decide +kernel
theorem dX6_escape_91 : decode cX6_escape 91 = .ok (.iconst 5, 1) := by decide +kernel
theorem dX6_escape_92 : decode cX6_escape 92 = .ok (.goto 5, 3) := by decide +kernel
theorem dX6_escape_95 : decode cX6_escape 95 = .ok (.bipush 6, 2) := by decide +kernel
theorem dX6_escape_97 : decode cX6_escape 97 = .ok (.invokevirtual 123, 3) := by decide +kernel
theorem dX6_escape_100 : decode cX6_escape 100 = .ok (.ireturn, 1) := by decide +kernel
theorem dX6_escape_101 : decode cX6_escape 101 = .ok (.iload_n 1, 1) := by decide +kernel
theorem dX6_escape_102 : decode cX6_escape 102 = .ok (.bipush 100, 2) := by decide +kernel
theorem dX6_escape_104 : decode cX6_escape 104 = .ok (.if_icmp .eq 24, 3) := by decide +kernel
theorem dX6_escape_107 : decode cX6_escape 107 = .ok (.iload_n 1, 1) := by decide +kernel
theorem dX6_escape_108 : decode cX6_escape 108 = .ok (.bipush 119, 2) := by decide +kernel
theorem dX6_escape_110 : decode cX6_escape 110 = .ok (.if_icmp .eq 18, 3) := by decide +kernel
theorem dX6_escape_113 : decode cX6_escape 113 = .ok (.iload_n 1, 1) := by decide +kernel
theorem dX6_escape_114 : decode cX6_escape 114 = .ok (.bipush 45, 2) := by decide +kernel
theorem dX6_escape_116 : decode cX6_escape 116 = .ok (.if_icmp .eq 12, 3) := by decide +kernel
theorem dX6_escape_119 : decode cX6_escape 119 = .ok (.iload_n 1, 1) := by decide +kernel
theorem dX6_escape_120 : decode cX6_escape 120 = .ok (.invokestatic 172, 3) := by decide +kernel
theorem dX6_escape_123 : decode cX6_escape 123 = .ok (.ifCond .ne 5, 3) := by decide +kernel
theorem dX6_escape_126 : decode cX6_escape 126 = .ok (.iconst (-1), 1) := by decide +kernel
theorem dX6_escape_127 : decode cX6_escape 127 = .ok (.ireturn, 1) := by decide +kernel
theorem dX6_escape_128 : decode cX6_escape 128 = .ok (.aload_n 0, 1) := by decide +kernel
theorem dX6_escape_129 : decode cX6_escape 129 = .ok (.iconst 2, 1) := by decide +kernel
theorem dX6_escape_130 : decode cX6_escape 130 = .ok (.invokevirtual 123, 3) := by decide +kernel
theorem dX6_escape_133 : decode cX6_escape 133 = .ok (.istore_n 2, 1) := by decide +kernel
theorem dX6_escape_134 : decode cX6_escape 134 = .ok (.iload_n 1, 1) := by decide +kernel
theorem dX6_escape_135 : decode cX6_escape 135 = .ok (.bipush 100, 2) := by decide +kernel
theorem dX6_escape_137 : decode cX6_escape 137 = .ok (.if_icmp .eq 9, 3) := by decide +kernel
theorem dX6_escape_140 : decode cX6_escape 140 = .ok (.iload_n 1, 1) := by decide +kernel
theorem dX6_escape_141 : decode cX6_escape 141 = .ok (.bipush 119, 2) := by decide +kernel
theorem dX6_escape_143 : decode cX6_escape 143 = .ok (.if_icmp .ne 12, 3) := by decide +kernel
theorem dX6_escape_146 : decode cX6_escape 146 = .ok (.aload_n 0, 1) := by decide +kernel
theorem dX6_escape_147 : decode cX6_escape 147 = .ok (.iload_n 2, 1) := by decide +kernel
theorem dX6_escape_148 : decode cX6_escape 148 = .ok (.iload_n 1, 1) := by decide +kernel
theorem dX6_escape_149 : decode cX6_escape 149 = .ok (.invokevirtual 175, 3) := by decide +kernel
theorem dX6_escape_152 : decode cX6_escape 152 = .ok (.goto 9, 3) := by decide +kernel
theorem dX6_escape_155 : decode cX6_escape 155 = .ok (.aload_n 0, 1) := by decide +kernel
theorem dX6_escape_156 : decode cX6_escape 156 = .ok (.iload_n 2, 1) := by decide +kernel
theorem dX6_escape_157 : decode cX6_escape 157 = .ok (.iload_n 1, 1) := by decide +kernel
theorem dX6_escape_158 : decode cX6_escape 158 = .ok (.invokevirtual 136, 3) := by decide +kernel
theorem dX6_escape_161 : decode cX6_escape 161 = .ok (.iload_n 2, 1) := by decide +kernel
theorem dX6_escape_162 : decode cX6_escape 162 = .ok (.ireturn, 1) := by decide +kernel
def E_escape (R : RS)  (R' : RS) (r : Int32) : Prop := ∃ (R1 : RS) (r2 : Int32), E_peek R 0 R1 r2 ∧ (if r2 < 49 then (if r2 = 98 then (∃ (R7 : RS) (r8 : Int32), E_create (mf R1 17 ((R1.1 17) + 1)) (if r2 = 98 then 5 else 6 : Int32) R7 r8 ∧ (R' = R7 ∧ r = r8)) else (if r2 = 66 then (∃ (R57 : RS) (r58 : Int32), E_create (mf R1 17 ((R1.1 17) + 1)) (if r2 = 98 then 5 else 6 : Int32) R57 r58 ∧ (R' = R57 ∧ r = r58)) else (if r2 = 100 then (∃ (R11 : RS) (r12 : Int32), E_create (mf R1 17 ((R1.1 17) + 1)) 2 R11 r12 ∧ (if r2 = 100 then (∃ R14 : RS, E_includeKind R11 r12 r2 R14 0 ∧ (R' = R14 ∧ r = r12)) else (if r2 = 119 then (∃ R19 : RS, E_includeKind R11 r12 r2 R19 0 ∧ (R' = R19 ∧ r = r12)) else (∃ R17 : RS, E_include R11 r12 r2 R17 0 ∧ (R' = R17 ∧ r = r12))))) else (if r2 = 119 then (∃ (R22 : RS) (r23 : Int32), E_create (mf R1 17 ((R1.1 17) + 1)) 2 R22 r23 ∧ (if r2 = 100 then (∃ R25 : RS, E_includeKind R22 r23 r2 R25 0 ∧ (R' = R25 ∧ r = r23)) else (if r2 = 119 then (∃ R30 : RS, E_includeKind R22 r23 r2 R30 0 ∧ (R' = R30 ∧ r = r23)) else (∃ R28 : RS, E_include R22 r23 r2 R28 0 ∧ (R' = R28 ∧ r = r23))))) else (if r2 = 45 then (∃ (R33 : RS) (r34 : Int32), E_create (mf R1 17 ((R1.1 17) + 1)) 2 R33 r34 ∧ (if r2 = 100 then (∃ R36 : RS, E_includeKind R33 r34 r2 R36 0 ∧ (R' = R36 ∧ r = r34)) else (if r2 = 119 then (∃ R41 : RS, E_includeKind R33 r34 r2 R41 0 ∧ (R' = R41 ∧ r = r34)) else (∃ R39 : RS, E_include R33 r34 r2 R39 0 ∧ (R' = R39 ∧ r = r34))))) else (∃ r43 : Int32, E_isSpecial r2 r43 ∧ (if r43 = 0 then (R' = (mf R1 17 ((R1.1 17) + 1)) ∧ r = (-1)) else (∃ (R45 : RS) (r46 : Int32), E_create (mf R1 17 ((R1.1 17) + 1)) 2 R45 r46 ∧ (if r2 = 100 then (∃ R48 : RS, E_includeKind R45 r46 r2 R48 0 ∧ (R' = R48 ∧ r = r46)) else (if r2 = 119 then (∃ R53 : RS, E_includeKind R45 r46 r2 R53 0 ∧ (R' = R53 ∧ r = r46)) else (∃ R51 : RS, E_include R45 r46 r2 R51 0 ∧ (R' = R51 ∧ r = r46)))))))))))) else (if 52 < r2 then (if r2 = 98 then (∃ (R63 : RS) (r64 : Int32), E_create (mf R1 17 ((R1.1 17) + 1)) (if r2 = 98 then 5 else 6 : Int32) R63 r64 ∧ (R' = R63 ∧ r = r64)) else (if r2 = 66 then (∃ (R113 : RS) (r114 : Int32), E_create (mf R1 17 ((R1.1 17) + 1)) (if r2 = 98 then 5 else 6 : Int32) R113 r114 ∧ (R' = R113 ∧ r = r114)) else (if r2 = 100 then (∃ (R67 : RS) (r68 : Int32), E_create (mf R1 17 ((R1.1 17) + 1)) 2 R67 r68 ∧ (if r2 = 100 then (∃ R70 : RS, E_includeKind R67 r68 r2 R70 0 ∧ (R' = R70 ∧ r = r68)) else (if r2 = 119 then (∃ R75 : RS, E_includeKind R67 r68 r2 R75 0 ∧ (R' = R75 ∧ r = r68)) else (∃ R73 : RS, E_include R67 r68 r2 R73 0 ∧ (R' = R73 ∧ r = r68))))) else (if r2 = 119 then (∃ (R78 : RS) (r79 : Int32), E_create (mf R1 17 ((R1.1 17) + 1)) 2 R78 r79 ∧ (if r2 = 100 then (∃ R81 : RS, E_includeKind R78 r79 r2 R81 0 ∧ (R' = R81 ∧ r = r79)) else (if r2 = 119 then (∃ R86 : RS, E_includeKind R78 r79 r2 R86 0 ∧ (R' = R86 ∧ r = r79)) else (∃ R84 : RS, E_include R78 r79 r2 R84 0 ∧ (R' = R84 ∧ r = r79))))) else (if r2 = 45 then (∃ (R89 : RS) (r90 : Int32), E_create (mf R1 17 ((R1.1 17) + 1)) 2 R89 r90 ∧ (if r2 = 100 then (∃ R92 : RS, E_includeKind R89 r90 r2 R92 0 ∧ (R' = R92 ∧ r = r90)) else (if r2 = 119 then (∃ R97 : RS, E_includeKind R89 r90 r2 R97 0 ∧ (R' = R97 ∧ r = r90)) else (∃ R95 : RS, E_include R89 r90 r2 R95 0 ∧ (R' = R95 ∧ r = r90))))) else (∃ r99 : Int32, E_isSpecial r2 r99 ∧ (if r99 = 0 then (R' = (mf R1 17 ((R1.1 17) + 1)) ∧ r = (-1)) else (∃ (R101 : RS) (r102 : Int32), E_create (mf R1 17 ((R1.1 17) + 1)) 2 R101 r102 ∧ (if r2 = 100 then (∃ R104 : RS, E_includeKind R101 r102 r2 R104 0 ∧ (R' = R104 ∧ r = r102)) else (if r2 = 119 then (∃ R109 : RS, E_includeKind R101 r102 r2 R109 0 ∧ (R' = R109 ∧ r = r102)) else (∃ R107 : RS, E_include R101 r102 r2 R107 0 ∧ (R' = R107 ∧ r = r102)))))))))))) else (if (R1.1 6) < (r2 - 48) then (R' = (mf R1 17 ((R1.1 17) + 1)) ∧ r = (-1)) else (vp_in (R1.1 16) 6 ∧ (if (R1.2.1 22 (R1.1 16).toNatClampNeg) = 0 then (∃ (R117 : RS) (r118 : Int32), E_create (mf R1 17 ((R1.1 17) + 1)) 7 R117 r118 ∧ (vp_in r118 96 ∧ (R' = (ma R117 9 r118.toNatClampNeg (r2 - 48)) ∧ r = r118))) else (R' = (mf R1 17 ((R1.1 17) + 1)) ∧ r = (-1)))))))
set_option maxHeartbeats 4000000 in
set_option maxRecDepth 100000 in
theorem e_escape (l : Launch) (G : PG) (h : Nat) (q : Nat → Nat) (R : RS)  (R' : RS) (r : Int32) (hE : E_escape R R' r) : Ci l yX6_escape (Cond.code yX6_escape cX6_escape 3 (some .int) :: aW) { frames := 2, cells := 0, slots := 0, locals := 45 } G (mW G h q R) [.ref h] (fun (r9 : Int32) (_ : Unit) => r9 = r) (fun (_ : Unit) => mW G h q R') 0 0 := by
  refine ofB (y := yX6_escape) (G := G) (cc := cX6_escape) (maxL := 3) (ret := (some .int)) (Qc := fun A => va_Qi (fun (r9 : Int32) (_ : Unit) => r9 = r) (oB G A (fun (_ : Unit) => mW G h q R')) A) (by decide) rfl ?_
  intro p e s m below meth c A F hK hA hP hD
  have hS : va_S A s.heap s.heap [] := va_S.rf
  have hx := F.1.1; have hb := F.1.2.1; have hml := F.1.2.2.1; have hts := F.1.2.2.2.2
  have hown : s.vm.findClass RX6 = some m.cls := F.1.2.2.2.1
  have hl := lv_entry ([.ref h]) (n := 3) (Nat.le_of_ble_eq_true rfl)
  rw [lg_entry_eq]
  generalize (lg_sl ([.ref h]) ++ List.replicate (3 - (lg_sl ([.ref h])).length) Slot.unset).toArray = ls at hl ⊢
  have hl : lv_has ls 3 [(0, .ref h)] := hl
  unfold E_escape at hE
  refine lv_aload_n hx hb dX6_escape_0 rfl (lv_at hl 0 rfl) ?_
  refine lv_iconst (v := 0) hx hb dX6_escape_1 (by decide) ?_
  obtain ⟨R1, r2, hg, hE⟩ := hE
  refine kA_i (va_runV (As := [.int 0]) (rest := []) F.1 (e_peek l G h q R 0 R1 r2 hg _) (cwV 1 hts (aw_V w_1031 w_1033 ws_X6_peek w_6 w_1034) rfl rfl rfl (by decide +kernel) ⟨by decide, by decide⟩) ⟨cS_blind, va_recv (q := (RX6, TX6, 48)) (ci := 6) (q0 := 0) hK.1 hP rfl mW_0, cS_pre hP hD hK⟩ rfl rfl hl.1 rfl (lv_room (Nat.le_of_ble_eq_true rfl)) dX6_escape_2 ⟨Nat.le_refl _, Nat.le_refl _⟩) hD hS hA (fun r9 u0 H locs hp hP hD hS => ?_)
  have hp := hp.symm; subst hp
  refine lv_istore_n hx hb dX6_escape_5 rfl hl (by decide) rfl (fun ls hl => ?_)
  have hl : lv_has ls 3 [(1, .int r2), (0, .ref h)] := hl
  refine lv_aload_n hx hb dX6_escape_6 rfl (lv_at hl 1 rfl) ?_
  refine lv_dup hx hb dX6_escape_7 rfl ?_
  refine va_get (D := G.1) (ci := 6) (C := RX6) (T := TX6) (N := 48) hx hb hts inX6 hown hK.1 hP 0 mW_0 rfl 17 (by decide) (hts _ w_863) (fun _ h9 => h9) mF_17 dX6_escape_8 ?_
  refine lv_iconst (v := 1) hx hb dX6_escape_11 (by decide) ?_
  refine lv_iadd hx hb dX6_escape_12 ?_
  refine va_put (D := G.1) (ci := 6) (v := .int ((R1.1 17) + 1)) (ty := .int) (C := RX6) (T := TX6) (N := 48) hx hb hts inX6 tyX6 tyX6_ok nmX6 hown hK.1 hP hD hS 0 mW_0 rfl 17 (by decide) (hts _ w_863) (fun _ h9 => h9) rfl (by decide +kernel) rfl rfl mF_l17 dX6_escape_13 (fun H locs hP hD hS => ?_)
  rw [mW_f17] at hP hD
  refine lv_iload_n hx hb dX6_escape_16 rfl (lv_at hl 0 rfl) ?_
  refine lv_bipush (v := 49) hx hb dX6_escape_17 (by decide) ?_
  refine lv_icmp_lt (tgt := 72) hx hb dX6_escape_19 (by decide) (fun h3 => ?_) (fun h3 => ?_)
  ·
    rw [if_pos h3] at hE
    refine lv_iload_n hx hb dX6_escape_72 rfl (lv_at hl 0 rfl) ?_
    refine lv_bipush (v := 98) hx hb dX6_escape_73 (by decide) ?_
    refine lv_icmp_eq (tgt := 84) hx hb dX6_escape_75 (by decide) (fun h4 => ?_) (fun h4 => ?_)
    ·
      rw [if_pos h4] at hE
      refine lv_aload_n hx hb dX6_escape_84 rfl (lv_at hl 1 rfl) ?_
      refine lv_iload_n hx hb dX6_escape_85 rfl (lv_at hl 0 rfl) ?_
      refine lv_bipush (v := 98) hx hb dX6_escape_86 (by decide) ?_
      refine jn_v (v := (if r2 = 98 then 5 else 6 : Int32)) (pcM := 97) (rest := [.ref h]) (fun kM => ?_) ?_
      ·
        refine lv_icmp_ne (tgt := 95) hx hb dX6_escape_88 (by decide) (fun h6 => ?_) (fun h6 => ?_)
        ·
          refine lv_bipush (v := 6) hx hb dX6_escape_95 (by decide) ?_
          exact kM _ (by try rw [if_neg h6])
        ·
          refine lv_iconst (v := 5) hx hb dX6_escape_91 (by decide) ?_
          refine lv_goto (tgt := 97) hx hb dX6_escape_92 (by decide) ?_
          exact kM _ (by try rw [if_pos h6])
      obtain ⟨R7, r8, hg, hE⟩ := hE
      refine kA_i (va_runV (As := [.int (if r2 = 98 then 5 else 6 : Int32)]) (rest := []) F.1 (e_create l G h q (mf R1 17 ((R1.1 17) + 1)) (if r2 = 98 then 5 else 6 : Int32) R7 r8 hg _) (cwV 1 hts (aw_V w_1023 w_1025 ws_X6_create w_6 w_1026) rfl rfl rfl (by decide +kernel) ⟨by decide, by decide⟩) ⟨cS_blind, va_recv (q := (RX6, TX6, 48)) (ci := 6) (q0 := 0) hK.1 hP rfl mW_0, cS_pre hP hD hK⟩ rfl rfl hl.1 rfl (lv_room (Nat.le_of_ble_eq_true rfl)) dX6_escape_97 ⟨Nat.le_refl _, Nat.le_refl _⟩) hD hS hA (fun r9 u0 H locs hp hP hD hS => ?_)
      have hp := hp.symm; subst hp
      obtain ⟨rfl, rfl⟩ := hE
      exact en_i F hS _ () (by rfl) rfl hP hD (Nat.le_refl _) (Nat.le_refl _) dX6_escape_100
    ·
      rw [if_neg h4] at hE
      refine lv_iload_n hx hb dX6_escape_78 rfl (lv_at hl 0 rfl) ?_
      refine lv_bipush (v := 66) hx hb dX6_escape_79 (by decide) ?_
      refine lv_icmp_ne (tgt := 101) hx hb dX6_escape_81 (by decide) (fun h9 => ?_) (fun h9 => ?_)
      ·
        rw [if_neg h9] at hE
        refine lv_iload_n hx hb dX6_escape_101 rfl (lv_at hl 0 rfl) ?_
        refine lv_bipush (v := 100) hx hb dX6_escape_102 (by decide) ?_
        refine lv_icmp_eq (tgt := 128) hx hb dX6_escape_104 (by decide) (fun h10 => ?_) (fun h10 => ?_)
        ·
          rw [if_pos h10] at hE
          refine lv_aload_n hx hb dX6_escape_128 rfl (lv_at hl 1 rfl) ?_
          refine lv_iconst (v := 2) hx hb dX6_escape_129 (by decide) ?_
          obtain ⟨R11, r12, hg, hE⟩ := hE
          refine kA_i (va_runV (As := [.int 2]) (rest := []) F.1 (e_create l G h q (mf R1 17 ((R1.1 17) + 1)) 2 R11 r12 hg _) (cwV 1 hts (aw_V w_1023 w_1025 ws_X6_create w_6 w_1026) rfl rfl rfl (by decide +kernel) ⟨by decide, by decide⟩) ⟨cS_blind, va_recv (q := (RX6, TX6, 48)) (ci := 6) (q0 := 0) hK.1 hP rfl mW_0, cS_pre hP hD hK⟩ rfl rfl hl.1 rfl (lv_room (Nat.le_of_ble_eq_true rfl)) dX6_escape_130 ⟨Nat.le_refl _, Nat.le_refl _⟩) hD hS hA (fun r9 u0 H locs hp hP hD hS => ?_)
          have hp := hp.symm; subst hp
          refine lv_istore_n hx hb dX6_escape_133 rfl hl (by decide) rfl (fun ls hl => ?_)
          have hl : lv_has ls 3 [(2, .int r12), (1, .int r2), (0, .ref h)] := hl
          refine lv_iload_n hx hb dX6_escape_134 rfl (lv_at hl 1 rfl) ?_
          refine lv_bipush (v := 100) hx hb dX6_escape_135 (by decide) ?_
          refine lv_icmp_eq (tgt := 146) hx hb dX6_escape_137 (by decide) (fun h13 => ?_) (fun h13 => ?_)
          ·
            rw [if_pos h13] at hE
            refine lv_aload_n hx hb dX6_escape_146 rfl (lv_at hl 2 rfl) ?_
            refine lv_iload_n hx hb dX6_escape_147 rfl (lv_at hl 0 rfl) ?_
            refine lv_iload_n hx hb dX6_escape_148 rfl (lv_at hl 1 rfl) ?_
            obtain ⟨R14, hg, hE⟩ := hE
            refine kA_v (va_runV (As := [.int r12, .int r2]) (rest := []) F.1 (e_includeKind l G h q R11 r12 r2 R14 0 hg _) (cwV 2 hts (aw_V w_1073 w_1075 ws_X6_includeKind w_6 w_1076) rfl rfl rfl (by decide +kernel) ⟨by decide, by decide⟩) ⟨cS_blind, va_recv (q := (RX6, TX6, 48)) (ci := 6) (q0 := 0) hK.1 hP rfl mW_0, cS_pre hP hD hK⟩ rfl rfl hl.1 rfl (lv_room (Nat.le_of_ble_eq_true rfl)) dX6_escape_149 ⟨Nat.le_refl _, Nat.le_refl _⟩) hD hS hA (fun u0 H locs hp hP hD hS => ?_)
            refine lv_goto (tgt := 161) hx hb dX6_escape_152 (by decide) ?_
            refine lv_iload_n hx hb dX6_escape_161 rfl (lv_at hl 0 rfl) ?_
            obtain ⟨rfl, rfl⟩ := hE
            exact en_i F hS _ () (by rfl) rfl hP hD (Nat.le_refl _) (Nat.le_refl _) dX6_escape_162
          ·
            rw [if_neg h13] at hE
            refine lv_iload_n hx hb dX6_escape_140 rfl (lv_at hl 1 rfl) ?_
            refine lv_bipush (v := 119) hx hb dX6_escape_141 (by decide) ?_
            refine lv_icmp_ne (tgt := 155) hx hb dX6_escape_143 (by decide) (fun h16 => ?_) (fun h16 => ?_)
            ·
              rw [if_neg h16] at hE
              refine lv_aload_n hx hb dX6_escape_155 rfl (lv_at hl 2 rfl) ?_
              refine lv_iload_n hx hb dX6_escape_156 rfl (lv_at hl 0 rfl) ?_
              refine lv_iload_n hx hb dX6_escape_157 rfl (lv_at hl 1 rfl) ?_
              obtain ⟨R17, hg, hE⟩ := hE
              refine kA_v (va_runV (As := [.int r12, .int r2]) (rest := []) F.1 (e_include l G h q R11 r12 r2 R17 0 hg _) (cwV 2 hts (aw_V w_1080 w_1082 ws_X6_include w_6 w_1083) rfl rfl rfl (by decide +kernel) ⟨by decide, by decide⟩) ⟨cS_blind, va_recv (q := (RX6, TX6, 48)) (ci := 6) (q0 := 0) hK.1 hP rfl mW_0, cS_pre hP hD hK⟩ rfl rfl hl.1 rfl (lv_room (Nat.le_of_ble_eq_true rfl)) dX6_escape_158 ⟨Nat.le_refl _, Nat.le_refl _⟩) hD hS hA (fun u0 H locs hp hP hD hS => ?_)
              refine lv_iload_n hx hb dX6_escape_161 rfl (lv_at hl 0 rfl) ?_
              obtain ⟨rfl, rfl⟩ := hE
              exact en_i F hS _ () (by rfl) rfl hP hD (Nat.le_refl _) (Nat.le_refl _) dX6_escape_162
            ·
              rw [if_pos h16] at hE
              refine lv_aload_n hx hb dX6_escape_146 rfl (lv_at hl 2 rfl) ?_
              refine lv_iload_n hx hb dX6_escape_147 rfl (lv_at hl 0 rfl) ?_
              refine lv_iload_n hx hb dX6_escape_148 rfl (lv_at hl 1 rfl) ?_
              obtain ⟨R19, hg, hE⟩ := hE
              refine kA_v (va_runV (As := [.int r12, .int r2]) (rest := []) F.1 (e_includeKind l G h q R11 r12 r2 R19 0 hg _) (cwV 2 hts (aw_V w_1073 w_1075 ws_X6_includeKind w_6 w_1076) rfl rfl rfl (by decide +kernel) ⟨by decide, by decide⟩) ⟨cS_blind, va_recv (q := (RX6, TX6, 48)) (ci := 6) (q0 := 0) hK.1 hP rfl mW_0, cS_pre hP hD hK⟩ rfl rfl hl.1 rfl (lv_room (Nat.le_of_ble_eq_true rfl)) dX6_escape_149 ⟨Nat.le_refl _, Nat.le_refl _⟩) hD hS hA (fun u0 H locs hp hP hD hS => ?_)
              refine lv_goto (tgt := 161) hx hb dX6_escape_152 (by decide) ?_
              refine lv_iload_n hx hb dX6_escape_161 rfl (lv_at hl 0 rfl) ?_
              obtain ⟨rfl, rfl⟩ := hE
              exact en_i F hS _ () (by rfl) rfl hP hD (Nat.le_refl _) (Nat.le_refl _) dX6_escape_162
        ·
          rw [if_neg h10] at hE
          refine lv_iload_n hx hb dX6_escape_107 rfl (lv_at hl 0 rfl) ?_
          refine lv_bipush (v := 119) hx hb dX6_escape_108 (by decide) ?_
          refine lv_icmp_eq (tgt := 128) hx hb dX6_escape_110 (by decide) (fun h21 => ?_) (fun h21 => ?_)
          ·
            rw [if_pos h21] at hE
            refine lv_aload_n hx hb dX6_escape_128 rfl (lv_at hl 1 rfl) ?_
            refine lv_iconst (v := 2) hx hb dX6_escape_129 (by decide) ?_
            obtain ⟨R22, r23, hg, hE⟩ := hE
            refine kA_i (va_runV (As := [.int 2]) (rest := []) F.1 (e_create l G h q (mf R1 17 ((R1.1 17) + 1)) 2 R22 r23 hg _) (cwV 1 hts (aw_V w_1023 w_1025 ws_X6_create w_6 w_1026) rfl rfl rfl (by decide +kernel) ⟨by decide, by decide⟩) ⟨cS_blind, va_recv (q := (RX6, TX6, 48)) (ci := 6) (q0 := 0) hK.1 hP rfl mW_0, cS_pre hP hD hK⟩ rfl rfl hl.1 rfl (lv_room (Nat.le_of_ble_eq_true rfl)) dX6_escape_130 ⟨Nat.le_refl _, Nat.le_refl _⟩) hD hS hA (fun r9 u0 H locs hp hP hD hS => ?_)
            have hp := hp.symm; subst hp
            refine lv_istore_n hx hb dX6_escape_133 rfl hl (by decide) rfl (fun ls hl => ?_)
            have hl : lv_has ls 3 [(2, .int r23), (1, .int r2), (0, .ref h)] := hl
            refine lv_iload_n hx hb dX6_escape_134 rfl (lv_at hl 1 rfl) ?_
            refine lv_bipush (v := 100) hx hb dX6_escape_135 (by decide) ?_
            refine lv_icmp_eq (tgt := 146) hx hb dX6_escape_137 (by decide) (fun h24 => ?_) (fun h24 => ?_)
            ·
              rw [if_pos h24] at hE
              refine lv_aload_n hx hb dX6_escape_146 rfl (lv_at hl 2 rfl) ?_
              refine lv_iload_n hx hb dX6_escape_147 rfl (lv_at hl 0 rfl) ?_
              refine lv_iload_n hx hb dX6_escape_148 rfl (lv_at hl 1 rfl) ?_
              obtain ⟨R25, hg, hE⟩ := hE
              refine kA_v (va_runV (As := [.int r23, .int r2]) (rest := []) F.1 (e_includeKind l G h q R22 r23 r2 R25 0 hg _) (cwV 2 hts (aw_V w_1073 w_1075 ws_X6_includeKind w_6 w_1076) rfl rfl rfl (by decide +kernel) ⟨by decide, by decide⟩) ⟨cS_blind, va_recv (q := (RX6, TX6, 48)) (ci := 6) (q0 := 0) hK.1 hP rfl mW_0, cS_pre hP hD hK⟩ rfl rfl hl.1 rfl (lv_room (Nat.le_of_ble_eq_true rfl)) dX6_escape_149 ⟨Nat.le_refl _, Nat.le_refl _⟩) hD hS hA (fun u0 H locs hp hP hD hS => ?_)
              refine lv_goto (tgt := 161) hx hb dX6_escape_152 (by decide) ?_
              refine lv_iload_n hx hb dX6_escape_161 rfl (lv_at hl 0 rfl) ?_
              obtain ⟨rfl, rfl⟩ := hE
              exact en_i F hS _ () (by rfl) rfl hP hD (Nat.le_refl _) (Nat.le_refl _) dX6_escape_162
            ·
              rw [if_neg h24] at hE
              refine lv_iload_n hx hb dX6_escape_140 rfl (lv_at hl 1 rfl) ?_
              refine lv_bipush (v := 119) hx hb dX6_escape_141 (by decide) ?_
              refine lv_icmp_ne (tgt := 155) hx hb dX6_escape_143 (by decide) (fun h27 => ?_) (fun h27 => ?_)
              ·
                rw [if_neg h27] at hE
                refine lv_aload_n hx hb dX6_escape_155 rfl (lv_at hl 2 rfl) ?_
                refine lv_iload_n hx hb dX6_escape_156 rfl (lv_at hl 0 rfl) ?_
                refine lv_iload_n hx hb dX6_escape_157 rfl (lv_at hl 1 rfl) ?_
                obtain ⟨R28, hg, hE⟩ := hE
                refine kA_v (va_runV (As := [.int r23, .int r2]) (rest := []) F.1 (e_include l G h q R22 r23 r2 R28 0 hg _) (cwV 2 hts (aw_V w_1080 w_1082 ws_X6_include w_6 w_1083) rfl rfl rfl (by decide +kernel) ⟨by decide, by decide⟩) ⟨cS_blind, va_recv (q := (RX6, TX6, 48)) (ci := 6) (q0 := 0) hK.1 hP rfl mW_0, cS_pre hP hD hK⟩ rfl rfl hl.1 rfl (lv_room (Nat.le_of_ble_eq_true rfl)) dX6_escape_158 ⟨Nat.le_refl _, Nat.le_refl _⟩) hD hS hA (fun u0 H locs hp hP hD hS => ?_)
                refine lv_iload_n hx hb dX6_escape_161 rfl (lv_at hl 0 rfl) ?_
                obtain ⟨rfl, rfl⟩ := hE
                exact en_i F hS _ () (by rfl) rfl hP hD (Nat.le_refl _) (Nat.le_refl _) dX6_escape_162
              ·
                rw [if_pos h27] at hE
                refine lv_aload_n hx hb dX6_escape_146 rfl (lv_at hl 2 rfl) ?_
                refine lv_iload_n hx hb dX6_escape_147 rfl (lv_at hl 0 rfl) ?_
                refine lv_iload_n hx hb dX6_escape_148 rfl (lv_at hl 1 rfl) ?_
                obtain ⟨R30, hg, hE⟩ := hE
                refine kA_v (va_runV (As := [.int r23, .int r2]) (rest := []) F.1 (e_includeKind l G h q R22 r23 r2 R30 0 hg _) (cwV 2 hts (aw_V w_1073 w_1075 ws_X6_includeKind w_6 w_1076) rfl rfl rfl (by decide +kernel) ⟨by decide, by decide⟩) ⟨cS_blind, va_recv (q := (RX6, TX6, 48)) (ci := 6) (q0 := 0) hK.1 hP rfl mW_0, cS_pre hP hD hK⟩ rfl rfl hl.1 rfl (lv_room (Nat.le_of_ble_eq_true rfl)) dX6_escape_149 ⟨Nat.le_refl _, Nat.le_refl _⟩) hD hS hA (fun u0 H locs hp hP hD hS => ?_)
                refine lv_goto (tgt := 161) hx hb dX6_escape_152 (by decide) ?_
                refine lv_iload_n hx hb dX6_escape_161 rfl (lv_at hl 0 rfl) ?_
                obtain ⟨rfl, rfl⟩ := hE
                exact en_i F hS _ () (by rfl) rfl hP hD (Nat.le_refl _) (Nat.le_refl _) dX6_escape_162
          ·
            rw [if_neg h21] at hE
            refine lv_iload_n hx hb dX6_escape_113 rfl (lv_at hl 0 rfl) ?_
            refine lv_bipush (v := 45) hx hb dX6_escape_114 (by decide) ?_
            refine lv_icmp_eq (tgt := 128) hx hb dX6_escape_116 (by decide) (fun h32 => ?_) (fun h32 => ?_)
            ·
              rw [if_pos h32] at hE
              refine lv_aload_n hx hb dX6_escape_128 rfl (lv_at hl 1 rfl) ?_
              refine lv_iconst (v := 2) hx hb dX6_escape_129 (by decide) ?_
              obtain ⟨R33, r34, hg, hE⟩ := hE
              refine kA_i (va_runV (As := [.int 2]) (rest := []) F.1 (e_create l G h q (mf R1 17 ((R1.1 17) + 1)) 2 R33 r34 hg _) (cwV 1 hts (aw_V w_1023 w_1025 ws_X6_create w_6 w_1026) rfl rfl rfl (by decide +kernel) ⟨by decide, by decide⟩) ⟨cS_blind, va_recv (q := (RX6, TX6, 48)) (ci := 6) (q0 := 0) hK.1 hP rfl mW_0, cS_pre hP hD hK⟩ rfl rfl hl.1 rfl (lv_room (Nat.le_of_ble_eq_true rfl)) dX6_escape_130 ⟨Nat.le_refl _, Nat.le_refl _⟩) hD hS hA (fun r9 u0 H locs hp hP hD hS => ?_)
              have hp := hp.symm; subst hp
              refine lv_istore_n hx hb dX6_escape_133 rfl hl (by decide) rfl (fun ls hl => ?_)
              have hl : lv_has ls 3 [(2, .int r34), (1, .int r2), (0, .ref h)] := hl
              refine lv_iload_n hx hb dX6_escape_134 rfl (lv_at hl 1 rfl) ?_
              refine lv_bipush (v := 100) hx hb dX6_escape_135 (by decide) ?_
              refine lv_icmp_eq (tgt := 146) hx hb dX6_escape_137 (by decide) (fun h35 => ?_) (fun h35 => ?_)
              ·
                rw [if_pos h35] at hE
                refine lv_aload_n hx hb dX6_escape_146 rfl (lv_at hl 2 rfl) ?_
                refine lv_iload_n hx hb dX6_escape_147 rfl (lv_at hl 0 rfl) ?_
                refine lv_iload_n hx hb dX6_escape_148 rfl (lv_at hl 1 rfl) ?_
                obtain ⟨R36, hg, hE⟩ := hE
                refine kA_v (va_runV (As := [.int r34, .int r2]) (rest := []) F.1 (e_includeKind l G h q R33 r34 r2 R36 0 hg _) (cwV 2 hts (aw_V w_1073 w_1075 ws_X6_includeKind w_6 w_1076) rfl rfl rfl (by decide +kernel) ⟨by decide, by decide⟩) ⟨cS_blind, va_recv (q := (RX6, TX6, 48)) (ci := 6) (q0 := 0) hK.1 hP rfl mW_0, cS_pre hP hD hK⟩ rfl rfl hl.1 rfl (lv_room (Nat.le_of_ble_eq_true rfl)) dX6_escape_149 ⟨Nat.le_refl _, Nat.le_refl _⟩) hD hS hA (fun u0 H locs hp hP hD hS => ?_)
                refine lv_goto (tgt := 161) hx hb dX6_escape_152 (by decide) ?_
                refine lv_iload_n hx hb dX6_escape_161 rfl (lv_at hl 0 rfl) ?_
                obtain ⟨rfl, rfl⟩ := hE
                exact en_i F hS _ () (by rfl) rfl hP hD (Nat.le_refl _) (Nat.le_refl _) dX6_escape_162
              ·
                rw [if_neg h35] at hE
                refine lv_iload_n hx hb dX6_escape_140 rfl (lv_at hl 1 rfl) ?_
                refine lv_bipush (v := 119) hx hb dX6_escape_141 (by decide) ?_
                refine lv_icmp_ne (tgt := 155) hx hb dX6_escape_143 (by decide) (fun h38 => ?_) (fun h38 => ?_)
                ·
                  rw [if_neg h38] at hE
                  refine lv_aload_n hx hb dX6_escape_155 rfl (lv_at hl 2 rfl) ?_
                  refine lv_iload_n hx hb dX6_escape_156 rfl (lv_at hl 0 rfl) ?_
                  refine lv_iload_n hx hb dX6_escape_157 rfl (lv_at hl 1 rfl) ?_
                  obtain ⟨R39, hg, hE⟩ := hE
                  refine kA_v (va_runV (As := [.int r34, .int r2]) (rest := []) F.1 (e_include l G h q R33 r34 r2 R39 0 hg _) (cwV 2 hts (aw_V w_1080 w_1082 ws_X6_include w_6 w_1083) rfl rfl rfl (by decide +kernel) ⟨by decide, by decide⟩) ⟨cS_blind, va_recv (q := (RX6, TX6, 48)) (ci := 6) (q0 := 0) hK.1 hP rfl mW_0, cS_pre hP hD hK⟩ rfl rfl hl.1 rfl (lv_room (Nat.le_of_ble_eq_true rfl)) dX6_escape_158 ⟨Nat.le_refl _, Nat.le_refl _⟩) hD hS hA (fun u0 H locs hp hP hD hS => ?_)
                  refine lv_iload_n hx hb dX6_escape_161 rfl (lv_at hl 0 rfl) ?_
                  obtain ⟨rfl, rfl⟩ := hE
                  exact en_i F hS _ () (by rfl) rfl hP hD (Nat.le_refl _) (Nat.le_refl _) dX6_escape_162
                ·
                  rw [if_pos h38] at hE
                  refine lv_aload_n hx hb dX6_escape_146 rfl (lv_at hl 2 rfl) ?_
                  refine lv_iload_n hx hb dX6_escape_147 rfl (lv_at hl 0 rfl) ?_
                  refine lv_iload_n hx hb dX6_escape_148 rfl (lv_at hl 1 rfl) ?_
                  obtain ⟨R41, hg, hE⟩ := hE
                  refine kA_v (va_runV (As := [.int r34, .int r2]) (rest := []) F.1 (e_includeKind l G h q R33 r34 r2 R41 0 hg _) (cwV 2 hts (aw_V w_1073 w_1075 ws_X6_includeKind w_6 w_1076) rfl rfl rfl (by decide +kernel) ⟨by decide, by decide⟩) ⟨cS_blind, va_recv (q := (RX6, TX6, 48)) (ci := 6) (q0 := 0) hK.1 hP rfl mW_0, cS_pre hP hD hK⟩ rfl rfl hl.1 rfl (lv_room (Nat.le_of_ble_eq_true rfl)) dX6_escape_149 ⟨Nat.le_refl _, Nat.le_refl _⟩) hD hS hA (fun u0 H locs hp hP hD hS => ?_)
                  refine lv_goto (tgt := 161) hx hb dX6_escape_152 (by decide) ?_
                  refine lv_iload_n hx hb dX6_escape_161 rfl (lv_at hl 0 rfl) ?_
                  obtain ⟨rfl, rfl⟩ := hE
                  exact en_i F hS _ () (by rfl) rfl hP hD (Nat.le_refl _) (Nat.le_refl _) dX6_escape_162
            ·
              rw [if_neg h32] at hE
              refine lv_iload_n hx hb dX6_escape_119 rfl (lv_at hl 0 rfl) ?_
              obtain ⟨r43, hg, hE⟩ := hE
              refine kp_i (va_runS (As := [.int r2]) (rest := []) F.1 (e_isSpecial l G r2 r43 hg _) (va_cwS 1 hts (aw_S w_1070 w_1071 w_6 w_1072) rfl rfl rfl (by decide +kernel) ⟨by decide, by decide⟩) ⟨cS_blind, cS_pre va_P0 (va_D0 (A := A)) hK⟩ rfl rfl hl.1 rfl (lv_room (Nat.le_of_ble_eq_true rfl)) dX6_escape_120 ⟨Nat.le_refl _, Nat.le_refl _⟩) (fun r9 hp => ?_)
              have hp := hp.symm; subst hp
              refine lv_if_ne (tgt := 128) hx hb dX6_escape_123 (by decide) (fun h44 => ?_) (fun h44 => ?_)
              ·
                rw [if_neg h44] at hE
                refine lv_aload_n hx hb dX6_escape_128 rfl (lv_at hl 1 rfl) ?_
                refine lv_iconst (v := 2) hx hb dX6_escape_129 (by decide) ?_
                obtain ⟨R45, r46, hg, hE⟩ := hE
                refine kA_i (va_runV (As := [.int 2]) (rest := []) F.1 (e_create l G h q (mf R1 17 ((R1.1 17) + 1)) 2 R45 r46 hg _) (cwV 1 hts (aw_V w_1023 w_1025 ws_X6_create w_6 w_1026) rfl rfl rfl (by decide +kernel) ⟨by decide, by decide⟩) ⟨cS_blind, va_recv (q := (RX6, TX6, 48)) (ci := 6) (q0 := 0) hK.1 hP rfl mW_0, cS_pre hP hD hK⟩ rfl rfl hl.1 rfl (lv_room (Nat.le_of_ble_eq_true rfl)) dX6_escape_130 ⟨Nat.le_refl _, Nat.le_refl _⟩) hD hS hA (fun r9 u0 H locs hp hP hD hS => ?_)
                have hp := hp.symm; subst hp
                refine lv_istore_n hx hb dX6_escape_133 rfl hl (by decide) rfl (fun ls hl => ?_)
                have hl : lv_has ls 3 [(2, .int r46), (1, .int r2), (0, .ref h)] := hl
                refine lv_iload_n hx hb dX6_escape_134 rfl (lv_at hl 1 rfl) ?_
                refine lv_bipush (v := 100) hx hb dX6_escape_135 (by decide) ?_
                refine lv_icmp_eq (tgt := 146) hx hb dX6_escape_137 (by decide) (fun h47 => ?_) (fun h47 => ?_)
                ·
                  rw [if_pos h47] at hE
                  refine lv_aload_n hx hb dX6_escape_146 rfl (lv_at hl 2 rfl) ?_
                  refine lv_iload_n hx hb dX6_escape_147 rfl (lv_at hl 0 rfl) ?_
                  refine lv_iload_n hx hb dX6_escape_148 rfl (lv_at hl 1 rfl) ?_
                  obtain ⟨R48, hg, hE⟩ := hE
                  refine kA_v (va_runV (As := [.int r46, .int r2]) (rest := []) F.1 (e_includeKind l G h q R45 r46 r2 R48 0 hg _) (cwV 2 hts (aw_V w_1073 w_1075 ws_X6_includeKind w_6 w_1076) rfl rfl rfl (by decide +kernel) ⟨by decide, by decide⟩) ⟨cS_blind, va_recv (q := (RX6, TX6, 48)) (ci := 6) (q0 := 0) hK.1 hP rfl mW_0, cS_pre hP hD hK⟩ rfl rfl hl.1 rfl (lv_room (Nat.le_of_ble_eq_true rfl)) dX6_escape_149 ⟨Nat.le_refl _, Nat.le_refl _⟩) hD hS hA (fun u0 H locs hp hP hD hS => ?_)
                  refine lv_goto (tgt := 161) hx hb dX6_escape_152 (by decide) ?_
                  refine lv_iload_n hx hb dX6_escape_161 rfl (lv_at hl 0 rfl) ?_
                  obtain ⟨rfl, rfl⟩ := hE
                  exact en_i F hS _ () (by rfl) rfl hP hD (Nat.le_refl _) (Nat.le_refl _) dX6_escape_162
                ·
                  rw [if_neg h47] at hE
                  refine lv_iload_n hx hb dX6_escape_140 rfl (lv_at hl 1 rfl) ?_
                  refine lv_bipush (v := 119) hx hb dX6_escape_141 (by decide) ?_
                  refine lv_icmp_ne (tgt := 155) hx hb dX6_escape_143 (by decide) (fun h50 => ?_) (fun h50 => ?_)
                  ·
                    rw [if_neg h50] at hE
                    refine lv_aload_n hx hb dX6_escape_155 rfl (lv_at hl 2 rfl) ?_
                    refine lv_iload_n hx hb dX6_escape_156 rfl (lv_at hl 0 rfl) ?_
                    refine lv_iload_n hx hb dX6_escape_157 rfl (lv_at hl 1 rfl) ?_
                    obtain ⟨R51, hg, hE⟩ := hE
                    refine kA_v (va_runV (As := [.int r46, .int r2]) (rest := []) F.1 (e_include l G h q R45 r46 r2 R51 0 hg _) (cwV 2 hts (aw_V w_1080 w_1082 ws_X6_include w_6 w_1083) rfl rfl rfl (by decide +kernel) ⟨by decide, by decide⟩) ⟨cS_blind, va_recv (q := (RX6, TX6, 48)) (ci := 6) (q0 := 0) hK.1 hP rfl mW_0, cS_pre hP hD hK⟩ rfl rfl hl.1 rfl (lv_room (Nat.le_of_ble_eq_true rfl)) dX6_escape_158 ⟨Nat.le_refl _, Nat.le_refl _⟩) hD hS hA (fun u0 H locs hp hP hD hS => ?_)
                    refine lv_iload_n hx hb dX6_escape_161 rfl (lv_at hl 0 rfl) ?_
                    obtain ⟨rfl, rfl⟩ := hE
                    exact en_i F hS _ () (by rfl) rfl hP hD (Nat.le_refl _) (Nat.le_refl _) dX6_escape_162
                  ·
                    rw [if_pos h50] at hE
                    refine lv_aload_n hx hb dX6_escape_146 rfl (lv_at hl 2 rfl) ?_
                    refine lv_iload_n hx hb dX6_escape_147 rfl (lv_at hl 0 rfl) ?_
                    refine lv_iload_n hx hb dX6_escape_148 rfl (lv_at hl 1 rfl) ?_
                    obtain ⟨R53, hg, hE⟩ := hE
                    refine kA_v (va_runV (As := [.int r46, .int r2]) (rest := []) F.1 (e_includeKind l G h q R45 r46 r2 R53 0 hg _) (cwV 2 hts (aw_V w_1073 w_1075 ws_X6_includeKind w_6 w_1076) rfl rfl rfl (by decide +kernel) ⟨by decide, by decide⟩) ⟨cS_blind, va_recv (q := (RX6, TX6, 48)) (ci := 6) (q0 := 0) hK.1 hP rfl mW_0, cS_pre hP hD hK⟩ rfl rfl hl.1 rfl (lv_room (Nat.le_of_ble_eq_true rfl)) dX6_escape_149 ⟨Nat.le_refl _, Nat.le_refl _⟩) hD hS hA (fun u0 H locs hp hP hD hS => ?_)
                    refine lv_goto (tgt := 161) hx hb dX6_escape_152 (by decide) ?_
                    refine lv_iload_n hx hb dX6_escape_161 rfl (lv_at hl 0 rfl) ?_
                    obtain ⟨rfl, rfl⟩ := hE
                    exact en_i F hS _ () (by rfl) rfl hP hD (Nat.le_refl _) (Nat.le_refl _) dX6_escape_162
              ·
                rw [if_pos h44] at hE
                refine lv_iconst (v := (-1)) hx hb dX6_escape_126 (by decide) ?_
                obtain ⟨rfl, rfl⟩ := hE
                exact en_i F hS _ () (by rfl) rfl hP hD (Nat.le_refl _) (Nat.le_refl _) dX6_escape_127
      ·
        rw [if_pos h9] at hE
        refine lv_aload_n hx hb dX6_escape_84 rfl (lv_at hl 1 rfl) ?_
        refine lv_iload_n hx hb dX6_escape_85 rfl (lv_at hl 0 rfl) ?_
        refine lv_bipush (v := 98) hx hb dX6_escape_86 (by decide) ?_
        refine jn_v (v := (if r2 = 98 then 5 else 6 : Int32)) (pcM := 97) (rest := [.ref h]) (fun kM => ?_) ?_
        ·
          refine lv_icmp_ne (tgt := 95) hx hb dX6_escape_88 (by decide) (fun h56 => ?_) (fun h56 => ?_)
          ·
            refine lv_bipush (v := 6) hx hb dX6_escape_95 (by decide) ?_
            exact kM _ (by try rw [if_neg h56])
          ·
            refine lv_iconst (v := 5) hx hb dX6_escape_91 (by decide) ?_
            refine lv_goto (tgt := 97) hx hb dX6_escape_92 (by decide) ?_
            exact kM _ (by try rw [if_pos h56])
        obtain ⟨R57, r58, hg, hE⟩ := hE
        refine kA_i (va_runV (As := [.int (if r2 = 98 then 5 else 6 : Int32)]) (rest := []) F.1 (e_create l G h q (mf R1 17 ((R1.1 17) + 1)) (if r2 = 98 then 5 else 6 : Int32) R57 r58 hg _) (cwV 1 hts (aw_V w_1023 w_1025 ws_X6_create w_6 w_1026) rfl rfl rfl (by decide +kernel) ⟨by decide, by decide⟩) ⟨cS_blind, va_recv (q := (RX6, TX6, 48)) (ci := 6) (q0 := 0) hK.1 hP rfl mW_0, cS_pre hP hD hK⟩ rfl rfl hl.1 rfl (lv_room (Nat.le_of_ble_eq_true rfl)) dX6_escape_97 ⟨Nat.le_refl _, Nat.le_refl _⟩) hD hS hA (fun r9 u0 H locs hp hP hD hS => ?_)
        have hp := hp.symm; subst hp
        obtain ⟨rfl, rfl⟩ := hE
        exact en_i F hS _ () (by rfl) rfl hP hD (Nat.le_refl _) (Nat.le_refl _) dX6_escape_100
  ·
    rw [if_neg h3] at hE
    refine lv_iload_n hx hb dX6_escape_22 rfl (lv_at hl 0 rfl) ?_
    refine lv_bipush (v := 52) hx hb dX6_escape_23 (by decide) ?_
    refine lv_icmp_gt (tgt := 72) hx hb dX6_escape_25 (by decide) (fun h59 => ?_) (fun h59 => ?_)
    ·
      rw [if_pos h59] at hE
      refine lv_iload_n hx hb dX6_escape_72 rfl (lv_at hl 0 rfl) ?_
      refine lv_bipush (v := 98) hx hb dX6_escape_73 (by decide) ?_
      refine lv_icmp_eq (tgt := 84) hx hb dX6_escape_75 (by decide) (fun h60 => ?_) (fun h60 => ?_)
      ·
        rw [if_pos h60] at hE
        refine lv_aload_n hx hb dX6_escape_84 rfl (lv_at hl 1 rfl) ?_
        refine lv_iload_n hx hb dX6_escape_85 rfl (lv_at hl 0 rfl) ?_
        refine lv_bipush (v := 98) hx hb dX6_escape_86 (by decide) ?_
        refine jn_v (v := (if r2 = 98 then 5 else 6 : Int32)) (pcM := 97) (rest := [.ref h]) (fun kM => ?_) ?_
        ·
          refine lv_icmp_ne (tgt := 95) hx hb dX6_escape_88 (by decide) (fun h62 => ?_) (fun h62 => ?_)
          ·
            refine lv_bipush (v := 6) hx hb dX6_escape_95 (by decide) ?_
            exact kM _ (by try rw [if_neg h62])
          ·
            refine lv_iconst (v := 5) hx hb dX6_escape_91 (by decide) ?_
            refine lv_goto (tgt := 97) hx hb dX6_escape_92 (by decide) ?_
            exact kM _ (by try rw [if_pos h62])
        obtain ⟨R63, r64, hg, hE⟩ := hE
        refine kA_i (va_runV (As := [.int (if r2 = 98 then 5 else 6 : Int32)]) (rest := []) F.1 (e_create l G h q (mf R1 17 ((R1.1 17) + 1)) (if r2 = 98 then 5 else 6 : Int32) R63 r64 hg _) (cwV 1 hts (aw_V w_1023 w_1025 ws_X6_create w_6 w_1026) rfl rfl rfl (by decide +kernel) ⟨by decide, by decide⟩) ⟨cS_blind, va_recv (q := (RX6, TX6, 48)) (ci := 6) (q0 := 0) hK.1 hP rfl mW_0, cS_pre hP hD hK⟩ rfl rfl hl.1 rfl (lv_room (Nat.le_of_ble_eq_true rfl)) dX6_escape_97 ⟨Nat.le_refl _, Nat.le_refl _⟩) hD hS hA (fun r9 u0 H locs hp hP hD hS => ?_)
        have hp := hp.symm; subst hp
        obtain ⟨rfl, rfl⟩ := hE
        exact en_i F hS _ () (by rfl) rfl hP hD (Nat.le_refl _) (Nat.le_refl _) dX6_escape_100
      ·
        rw [if_neg h60] at hE
        refine lv_iload_n hx hb dX6_escape_78 rfl (lv_at hl 0 rfl) ?_
        refine lv_bipush (v := 66) hx hb dX6_escape_79 (by decide) ?_
        refine lv_icmp_ne (tgt := 101) hx hb dX6_escape_81 (by decide) (fun h65 => ?_) (fun h65 => ?_)
        ·
          rw [if_neg h65] at hE
          refine lv_iload_n hx hb dX6_escape_101 rfl (lv_at hl 0 rfl) ?_
          refine lv_bipush (v := 100) hx hb dX6_escape_102 (by decide) ?_
          refine lv_icmp_eq (tgt := 128) hx hb dX6_escape_104 (by decide) (fun h66 => ?_) (fun h66 => ?_)
          ·
            rw [if_pos h66] at hE
            refine lv_aload_n hx hb dX6_escape_128 rfl (lv_at hl 1 rfl) ?_
            refine lv_iconst (v := 2) hx hb dX6_escape_129 (by decide) ?_
            obtain ⟨R67, r68, hg, hE⟩ := hE
            refine kA_i (va_runV (As := [.int 2]) (rest := []) F.1 (e_create l G h q (mf R1 17 ((R1.1 17) + 1)) 2 R67 r68 hg _) (cwV 1 hts (aw_V w_1023 w_1025 ws_X6_create w_6 w_1026) rfl rfl rfl (by decide +kernel) ⟨by decide, by decide⟩) ⟨cS_blind, va_recv (q := (RX6, TX6, 48)) (ci := 6) (q0 := 0) hK.1 hP rfl mW_0, cS_pre hP hD hK⟩ rfl rfl hl.1 rfl (lv_room (Nat.le_of_ble_eq_true rfl)) dX6_escape_130 ⟨Nat.le_refl _, Nat.le_refl _⟩) hD hS hA (fun r9 u0 H locs hp hP hD hS => ?_)
            have hp := hp.symm; subst hp
            refine lv_istore_n hx hb dX6_escape_133 rfl hl (by decide) rfl (fun ls hl => ?_)
            have hl : lv_has ls 3 [(2, .int r68), (1, .int r2), (0, .ref h)] := hl
            refine lv_iload_n hx hb dX6_escape_134 rfl (lv_at hl 1 rfl) ?_
            refine lv_bipush (v := 100) hx hb dX6_escape_135 (by decide) ?_
            refine lv_icmp_eq (tgt := 146) hx hb dX6_escape_137 (by decide) (fun h69 => ?_) (fun h69 => ?_)
            ·
              rw [if_pos h69] at hE
              refine lv_aload_n hx hb dX6_escape_146 rfl (lv_at hl 2 rfl) ?_
              refine lv_iload_n hx hb dX6_escape_147 rfl (lv_at hl 0 rfl) ?_
              refine lv_iload_n hx hb dX6_escape_148 rfl (lv_at hl 1 rfl) ?_
              obtain ⟨R70, hg, hE⟩ := hE
              refine kA_v (va_runV (As := [.int r68, .int r2]) (rest := []) F.1 (e_includeKind l G h q R67 r68 r2 R70 0 hg _) (cwV 2 hts (aw_V w_1073 w_1075 ws_X6_includeKind w_6 w_1076) rfl rfl rfl (by decide +kernel) ⟨by decide, by decide⟩) ⟨cS_blind, va_recv (q := (RX6, TX6, 48)) (ci := 6) (q0 := 0) hK.1 hP rfl mW_0, cS_pre hP hD hK⟩ rfl rfl hl.1 rfl (lv_room (Nat.le_of_ble_eq_true rfl)) dX6_escape_149 ⟨Nat.le_refl _, Nat.le_refl _⟩) hD hS hA (fun u0 H locs hp hP hD hS => ?_)
              refine lv_goto (tgt := 161) hx hb dX6_escape_152 (by decide) ?_
              refine lv_iload_n hx hb dX6_escape_161 rfl (lv_at hl 0 rfl) ?_
              obtain ⟨rfl, rfl⟩ := hE
              exact en_i F hS _ () (by rfl) rfl hP hD (Nat.le_refl _) (Nat.le_refl _) dX6_escape_162
            ·
              rw [if_neg h69] at hE
              refine lv_iload_n hx hb dX6_escape_140 rfl (lv_at hl 1 rfl) ?_
              refine lv_bipush (v := 119) hx hb dX6_escape_141 (by decide) ?_
              refine lv_icmp_ne (tgt := 155) hx hb dX6_escape_143 (by decide) (fun h72 => ?_) (fun h72 => ?_)
              ·
                rw [if_neg h72] at hE
                refine lv_aload_n hx hb dX6_escape_155 rfl (lv_at hl 2 rfl) ?_
                refine lv_iload_n hx hb dX6_escape_156 rfl (lv_at hl 0 rfl) ?_
                refine lv_iload_n hx hb dX6_escape_157 rfl (lv_at hl 1 rfl) ?_
                obtain ⟨R73, hg, hE⟩ := hE
                refine kA_v (va_runV (As := [.int r68, .int r2]) (rest := []) F.1 (e_include l G h q R67 r68 r2 R73 0 hg _) (cwV 2 hts (aw_V w_1080 w_1082 ws_X6_include w_6 w_1083) rfl rfl rfl (by decide +kernel) ⟨by decide, by decide⟩) ⟨cS_blind, va_recv (q := (RX6, TX6, 48)) (ci := 6) (q0 := 0) hK.1 hP rfl mW_0, cS_pre hP hD hK⟩ rfl rfl hl.1 rfl (lv_room (Nat.le_of_ble_eq_true rfl)) dX6_escape_158 ⟨Nat.le_refl _, Nat.le_refl _⟩) hD hS hA (fun u0 H locs hp hP hD hS => ?_)
                refine lv_iload_n hx hb dX6_escape_161 rfl (lv_at hl 0 rfl) ?_
                obtain ⟨rfl, rfl⟩ := hE
                exact en_i F hS _ () (by rfl) rfl hP hD (Nat.le_refl _) (Nat.le_refl _) dX6_escape_162
              ·
                rw [if_pos h72] at hE
                refine lv_aload_n hx hb dX6_escape_146 rfl (lv_at hl 2 rfl) ?_
                refine lv_iload_n hx hb dX6_escape_147 rfl (lv_at hl 0 rfl) ?_
                refine lv_iload_n hx hb dX6_escape_148 rfl (lv_at hl 1 rfl) ?_
                obtain ⟨R75, hg, hE⟩ := hE
                refine kA_v (va_runV (As := [.int r68, .int r2]) (rest := []) F.1 (e_includeKind l G h q R67 r68 r2 R75 0 hg _) (cwV 2 hts (aw_V w_1073 w_1075 ws_X6_includeKind w_6 w_1076) rfl rfl rfl (by decide +kernel) ⟨by decide, by decide⟩) ⟨cS_blind, va_recv (q := (RX6, TX6, 48)) (ci := 6) (q0 := 0) hK.1 hP rfl mW_0, cS_pre hP hD hK⟩ rfl rfl hl.1 rfl (lv_room (Nat.le_of_ble_eq_true rfl)) dX6_escape_149 ⟨Nat.le_refl _, Nat.le_refl _⟩) hD hS hA (fun u0 H locs hp hP hD hS => ?_)
                refine lv_goto (tgt := 161) hx hb dX6_escape_152 (by decide) ?_
                refine lv_iload_n hx hb dX6_escape_161 rfl (lv_at hl 0 rfl) ?_
                obtain ⟨rfl, rfl⟩ := hE
                exact en_i F hS _ () (by rfl) rfl hP hD (Nat.le_refl _) (Nat.le_refl _) dX6_escape_162
          ·
            rw [if_neg h66] at hE
            refine lv_iload_n hx hb dX6_escape_107 rfl (lv_at hl 0 rfl) ?_
            refine lv_bipush (v := 119) hx hb dX6_escape_108 (by decide) ?_
            refine lv_icmp_eq (tgt := 128) hx hb dX6_escape_110 (by decide) (fun h77 => ?_) (fun h77 => ?_)
            ·
              rw [if_pos h77] at hE
              refine lv_aload_n hx hb dX6_escape_128 rfl (lv_at hl 1 rfl) ?_
              refine lv_iconst (v := 2) hx hb dX6_escape_129 (by decide) ?_
              obtain ⟨R78, r79, hg, hE⟩ := hE
              refine kA_i (va_runV (As := [.int 2]) (rest := []) F.1 (e_create l G h q (mf R1 17 ((R1.1 17) + 1)) 2 R78 r79 hg _) (cwV 1 hts (aw_V w_1023 w_1025 ws_X6_create w_6 w_1026) rfl rfl rfl (by decide +kernel) ⟨by decide, by decide⟩) ⟨cS_blind, va_recv (q := (RX6, TX6, 48)) (ci := 6) (q0 := 0) hK.1 hP rfl mW_0, cS_pre hP hD hK⟩ rfl rfl hl.1 rfl (lv_room (Nat.le_of_ble_eq_true rfl)) dX6_escape_130 ⟨Nat.le_refl _, Nat.le_refl _⟩) hD hS hA (fun r9 u0 H locs hp hP hD hS => ?_)
              have hp := hp.symm; subst hp
              refine lv_istore_n hx hb dX6_escape_133 rfl hl (by decide) rfl (fun ls hl => ?_)
              have hl : lv_has ls 3 [(2, .int r79), (1, .int r2), (0, .ref h)] := hl
              refine lv_iload_n hx hb dX6_escape_134 rfl (lv_at hl 1 rfl) ?_
              refine lv_bipush (v := 100) hx hb dX6_escape_135 (by decide) ?_
              refine lv_icmp_eq (tgt := 146) hx hb dX6_escape_137 (by decide) (fun h80 => ?_) (fun h80 => ?_)
              ·
                rw [if_pos h80] at hE
                refine lv_aload_n hx hb dX6_escape_146 rfl (lv_at hl 2 rfl) ?_
                refine lv_iload_n hx hb dX6_escape_147 rfl (lv_at hl 0 rfl) ?_
                refine lv_iload_n hx hb dX6_escape_148 rfl (lv_at hl 1 rfl) ?_
                obtain ⟨R81, hg, hE⟩ := hE
                refine kA_v (va_runV (As := [.int r79, .int r2]) (rest := []) F.1 (e_includeKind l G h q R78 r79 r2 R81 0 hg _) (cwV 2 hts (aw_V w_1073 w_1075 ws_X6_includeKind w_6 w_1076) rfl rfl rfl (by decide +kernel) ⟨by decide, by decide⟩) ⟨cS_blind, va_recv (q := (RX6, TX6, 48)) (ci := 6) (q0 := 0) hK.1 hP rfl mW_0, cS_pre hP hD hK⟩ rfl rfl hl.1 rfl (lv_room (Nat.le_of_ble_eq_true rfl)) dX6_escape_149 ⟨Nat.le_refl _, Nat.le_refl _⟩) hD hS hA (fun u0 H locs hp hP hD hS => ?_)
                refine lv_goto (tgt := 161) hx hb dX6_escape_152 (by decide) ?_
                refine lv_iload_n hx hb dX6_escape_161 rfl (lv_at hl 0 rfl) ?_
                obtain ⟨rfl, rfl⟩ := hE
                exact en_i F hS _ () (by rfl) rfl hP hD (Nat.le_refl _) (Nat.le_refl _) dX6_escape_162
              ·
                rw [if_neg h80] at hE
                refine lv_iload_n hx hb dX6_escape_140 rfl (lv_at hl 1 rfl) ?_
                refine lv_bipush (v := 119) hx hb dX6_escape_141 (by decide) ?_
                refine lv_icmp_ne (tgt := 155) hx hb dX6_escape_143 (by decide) (fun h83 => ?_) (fun h83 => ?_)
                ·
                  rw [if_neg h83] at hE
                  refine lv_aload_n hx hb dX6_escape_155 rfl (lv_at hl 2 rfl) ?_
                  refine lv_iload_n hx hb dX6_escape_156 rfl (lv_at hl 0 rfl) ?_
                  refine lv_iload_n hx hb dX6_escape_157 rfl (lv_at hl 1 rfl) ?_
                  obtain ⟨R84, hg, hE⟩ := hE
                  refine kA_v (va_runV (As := [.int r79, .int r2]) (rest := []) F.1 (e_include l G h q R78 r79 r2 R84 0 hg _) (cwV 2 hts (aw_V w_1080 w_1082 ws_X6_include w_6 w_1083) rfl rfl rfl (by decide +kernel) ⟨by decide, by decide⟩) ⟨cS_blind, va_recv (q := (RX6, TX6, 48)) (ci := 6) (q0 := 0) hK.1 hP rfl mW_0, cS_pre hP hD hK⟩ rfl rfl hl.1 rfl (lv_room (Nat.le_of_ble_eq_true rfl)) dX6_escape_158 ⟨Nat.le_refl _, Nat.le_refl _⟩) hD hS hA (fun u0 H locs hp hP hD hS => ?_)
                  refine lv_iload_n hx hb dX6_escape_161 rfl (lv_at hl 0 rfl) ?_
                  obtain ⟨rfl, rfl⟩ := hE
                  exact en_i F hS _ () (by rfl) rfl hP hD (Nat.le_refl _) (Nat.le_refl _) dX6_escape_162
                ·
                  rw [if_pos h83] at hE
                  refine lv_aload_n hx hb dX6_escape_146 rfl (lv_at hl 2 rfl) ?_
                  refine lv_iload_n hx hb dX6_escape_147 rfl (lv_at hl 0 rfl) ?_
                  refine lv_iload_n hx hb dX6_escape_148 rfl (lv_at hl 1 rfl) ?_
                  obtain ⟨R86, hg, hE⟩ := hE
                  refine kA_v (va_runV (As := [.int r79, .int r2]) (rest := []) F.1 (e_includeKind l G h q R78 r79 r2 R86 0 hg _) (cwV 2 hts (aw_V w_1073 w_1075 ws_X6_includeKind w_6 w_1076) rfl rfl rfl (by decide +kernel) ⟨by decide, by decide⟩) ⟨cS_blind, va_recv (q := (RX6, TX6, 48)) (ci := 6) (q0 := 0) hK.1 hP rfl mW_0, cS_pre hP hD hK⟩ rfl rfl hl.1 rfl (lv_room (Nat.le_of_ble_eq_true rfl)) dX6_escape_149 ⟨Nat.le_refl _, Nat.le_refl _⟩) hD hS hA (fun u0 H locs hp hP hD hS => ?_)
                  refine lv_goto (tgt := 161) hx hb dX6_escape_152 (by decide) ?_
                  refine lv_iload_n hx hb dX6_escape_161 rfl (lv_at hl 0 rfl) ?_
                  obtain ⟨rfl, rfl⟩ := hE
                  exact en_i F hS _ () (by rfl) rfl hP hD (Nat.le_refl _) (Nat.le_refl _) dX6_escape_162
            ·
              rw [if_neg h77] at hE
              refine lv_iload_n hx hb dX6_escape_113 rfl (lv_at hl 0 rfl) ?_
              refine lv_bipush (v := 45) hx hb dX6_escape_114 (by decide) ?_
              refine lv_icmp_eq (tgt := 128) hx hb dX6_escape_116 (by decide) (fun h88 => ?_) (fun h88 => ?_)
              ·
                rw [if_pos h88] at hE
                refine lv_aload_n hx hb dX6_escape_128 rfl (lv_at hl 1 rfl) ?_
                refine lv_iconst (v := 2) hx hb dX6_escape_129 (by decide) ?_
                obtain ⟨R89, r90, hg, hE⟩ := hE
                refine kA_i (va_runV (As := [.int 2]) (rest := []) F.1 (e_create l G h q (mf R1 17 ((R1.1 17) + 1)) 2 R89 r90 hg _) (cwV 1 hts (aw_V w_1023 w_1025 ws_X6_create w_6 w_1026) rfl rfl rfl (by decide +kernel) ⟨by decide, by decide⟩) ⟨cS_blind, va_recv (q := (RX6, TX6, 48)) (ci := 6) (q0 := 0) hK.1 hP rfl mW_0, cS_pre hP hD hK⟩ rfl rfl hl.1 rfl (lv_room (Nat.le_of_ble_eq_true rfl)) dX6_escape_130 ⟨Nat.le_refl _, Nat.le_refl _⟩) hD hS hA (fun r9 u0 H locs hp hP hD hS => ?_)
                have hp := hp.symm; subst hp
                refine lv_istore_n hx hb dX6_escape_133 rfl hl (by decide) rfl (fun ls hl => ?_)
                have hl : lv_has ls 3 [(2, .int r90), (1, .int r2), (0, .ref h)] := hl
                refine lv_iload_n hx hb dX6_escape_134 rfl (lv_at hl 1 rfl) ?_
                refine lv_bipush (v := 100) hx hb dX6_escape_135 (by decide) ?_
                refine lv_icmp_eq (tgt := 146) hx hb dX6_escape_137 (by decide) (fun h91 => ?_) (fun h91 => ?_)
                ·
                  rw [if_pos h91] at hE
                  refine lv_aload_n hx hb dX6_escape_146 rfl (lv_at hl 2 rfl) ?_
                  refine lv_iload_n hx hb dX6_escape_147 rfl (lv_at hl 0 rfl) ?_
                  refine lv_iload_n hx hb dX6_escape_148 rfl (lv_at hl 1 rfl) ?_
                  obtain ⟨R92, hg, hE⟩ := hE
                  refine kA_v (va_runV (As := [.int r90, .int r2]) (rest := []) F.1 (e_includeKind l G h q R89 r90 r2 R92 0 hg _) (cwV 2 hts (aw_V w_1073 w_1075 ws_X6_includeKind w_6 w_1076) rfl rfl rfl (by decide +kernel) ⟨by decide, by decide⟩) ⟨cS_blind, va_recv (q := (RX6, TX6, 48)) (ci := 6) (q0 := 0) hK.1 hP rfl mW_0, cS_pre hP hD hK⟩ rfl rfl hl.1 rfl (lv_room (Nat.le_of_ble_eq_true rfl)) dX6_escape_149 ⟨Nat.le_refl _, Nat.le_refl _⟩) hD hS hA (fun u0 H locs hp hP hD hS => ?_)
                  refine lv_goto (tgt := 161) hx hb dX6_escape_152 (by decide) ?_
                  refine lv_iload_n hx hb dX6_escape_161 rfl (lv_at hl 0 rfl) ?_
                  obtain ⟨rfl, rfl⟩ := hE
                  exact en_i F hS _ () (by rfl) rfl hP hD (Nat.le_refl _) (Nat.le_refl _) dX6_escape_162
                ·
                  rw [if_neg h91] at hE
                  refine lv_iload_n hx hb dX6_escape_140 rfl (lv_at hl 1 rfl) ?_
                  refine lv_bipush (v := 119) hx hb dX6_escape_141 (by decide) ?_
                  refine lv_icmp_ne (tgt := 155) hx hb dX6_escape_143 (by decide) (fun h94 => ?_) (fun h94 => ?_)
                  ·
                    rw [if_neg h94] at hE
                    refine lv_aload_n hx hb dX6_escape_155 rfl (lv_at hl 2 rfl) ?_
                    refine lv_iload_n hx hb dX6_escape_156 rfl (lv_at hl 0 rfl) ?_
                    refine lv_iload_n hx hb dX6_escape_157 rfl (lv_at hl 1 rfl) ?_
                    obtain ⟨R95, hg, hE⟩ := hE
                    refine kA_v (va_runV (As := [.int r90, .int r2]) (rest := []) F.1 (e_include l G h q R89 r90 r2 R95 0 hg _) (cwV 2 hts (aw_V w_1080 w_1082 ws_X6_include w_6 w_1083) rfl rfl rfl (by decide +kernel) ⟨by decide, by decide⟩) ⟨cS_blind, va_recv (q := (RX6, TX6, 48)) (ci := 6) (q0 := 0) hK.1 hP rfl mW_0, cS_pre hP hD hK⟩ rfl rfl hl.1 rfl (lv_room (Nat.le_of_ble_eq_true rfl)) dX6_escape_158 ⟨Nat.le_refl _, Nat.le_refl _⟩) hD hS hA (fun u0 H locs hp hP hD hS => ?_)
                    refine lv_iload_n hx hb dX6_escape_161 rfl (lv_at hl 0 rfl) ?_
                    obtain ⟨rfl, rfl⟩ := hE
                    exact en_i F hS _ () (by rfl) rfl hP hD (Nat.le_refl _) (Nat.le_refl _) dX6_escape_162
                  ·
                    rw [if_pos h94] at hE
                    refine lv_aload_n hx hb dX6_escape_146 rfl (lv_at hl 2 rfl) ?_
                    refine lv_iload_n hx hb dX6_escape_147 rfl (lv_at hl 0 rfl) ?_
                    refine lv_iload_n hx hb dX6_escape_148 rfl (lv_at hl 1 rfl) ?_
                    obtain ⟨R97, hg, hE⟩ := hE
                    refine kA_v (va_runV (As := [.int r90, .int r2]) (rest := []) F.1 (e_includeKind l G h q R89 r90 r2 R97 0 hg _) (cwV 2 hts (aw_V w_1073 w_1075 ws_X6_includeKind w_6 w_1076) rfl rfl rfl (by decide +kernel) ⟨by decide, by decide⟩) ⟨cS_blind, va_recv (q := (RX6, TX6, 48)) (ci := 6) (q0 := 0) hK.1 hP rfl mW_0, cS_pre hP hD hK⟩ rfl rfl hl.1 rfl (lv_room (Nat.le_of_ble_eq_true rfl)) dX6_escape_149 ⟨Nat.le_refl _, Nat.le_refl _⟩) hD hS hA (fun u0 H locs hp hP hD hS => ?_)
                    refine lv_goto (tgt := 161) hx hb dX6_escape_152 (by decide) ?_
                    refine lv_iload_n hx hb dX6_escape_161 rfl (lv_at hl 0 rfl) ?_
                    obtain ⟨rfl, rfl⟩ := hE
                    exact en_i F hS _ () (by rfl) rfl hP hD (Nat.le_refl _) (Nat.le_refl _) dX6_escape_162
              ·
                rw [if_neg h88] at hE
                refine lv_iload_n hx hb dX6_escape_119 rfl (lv_at hl 0 rfl) ?_
                obtain ⟨r99, hg, hE⟩ := hE
                refine kp_i (va_runS (As := [.int r2]) (rest := []) F.1 (e_isSpecial l G r2 r99 hg _) (va_cwS 1 hts (aw_S w_1070 w_1071 w_6 w_1072) rfl rfl rfl (by decide +kernel) ⟨by decide, by decide⟩) ⟨cS_blind, cS_pre va_P0 (va_D0 (A := A)) hK⟩ rfl rfl hl.1 rfl (lv_room (Nat.le_of_ble_eq_true rfl)) dX6_escape_120 ⟨Nat.le_refl _, Nat.le_refl _⟩) (fun r9 hp => ?_)
                have hp := hp.symm; subst hp
                refine lv_if_ne (tgt := 128) hx hb dX6_escape_123 (by decide) (fun h100 => ?_) (fun h100 => ?_)
                ·
                  rw [if_neg h100] at hE
                  refine lv_aload_n hx hb dX6_escape_128 rfl (lv_at hl 1 rfl) ?_
                  refine lv_iconst (v := 2) hx hb dX6_escape_129 (by decide) ?_
                  obtain ⟨R101, r102, hg, hE⟩ := hE
                  refine kA_i (va_runV (As := [.int 2]) (rest := []) F.1 (e_create l G h q (mf R1 17 ((R1.1 17) + 1)) 2 R101 r102 hg _) (cwV 1 hts (aw_V w_1023 w_1025 ws_X6_create w_6 w_1026) rfl rfl rfl (by decide +kernel) ⟨by decide, by decide⟩) ⟨cS_blind, va_recv (q := (RX6, TX6, 48)) (ci := 6) (q0 := 0) hK.1 hP rfl mW_0, cS_pre hP hD hK⟩ rfl rfl hl.1 rfl (lv_room (Nat.le_of_ble_eq_true rfl)) dX6_escape_130 ⟨Nat.le_refl _, Nat.le_refl _⟩) hD hS hA (fun r9 u0 H locs hp hP hD hS => ?_)
                  have hp := hp.symm; subst hp
                  refine lv_istore_n hx hb dX6_escape_133 rfl hl (by decide) rfl (fun ls hl => ?_)
                  have hl : lv_has ls 3 [(2, .int r102), (1, .int r2), (0, .ref h)] := hl
                  refine lv_iload_n hx hb dX6_escape_134 rfl (lv_at hl 1 rfl) ?_
                  refine lv_bipush (v := 100) hx hb dX6_escape_135 (by decide) ?_
                  refine lv_icmp_eq (tgt := 146) hx hb dX6_escape_137 (by decide) (fun h103 => ?_) (fun h103 => ?_)
                  ·
                    rw [if_pos h103] at hE
                    refine lv_aload_n hx hb dX6_escape_146 rfl (lv_at hl 2 rfl) ?_
                    refine lv_iload_n hx hb dX6_escape_147 rfl (lv_at hl 0 rfl) ?_
                    refine lv_iload_n hx hb dX6_escape_148 rfl (lv_at hl 1 rfl) ?_
                    obtain ⟨R104, hg, hE⟩ := hE
                    refine kA_v (va_runV (As := [.int r102, .int r2]) (rest := []) F.1 (e_includeKind l G h q R101 r102 r2 R104 0 hg _) (cwV 2 hts (aw_V w_1073 w_1075 ws_X6_includeKind w_6 w_1076) rfl rfl rfl (by decide +kernel) ⟨by decide, by decide⟩) ⟨cS_blind, va_recv (q := (RX6, TX6, 48)) (ci := 6) (q0 := 0) hK.1 hP rfl mW_0, cS_pre hP hD hK⟩ rfl rfl hl.1 rfl (lv_room (Nat.le_of_ble_eq_true rfl)) dX6_escape_149 ⟨Nat.le_refl _, Nat.le_refl _⟩) hD hS hA (fun u0 H locs hp hP hD hS => ?_)
                    refine lv_goto (tgt := 161) hx hb dX6_escape_152 (by decide) ?_
                    refine lv_iload_n hx hb dX6_escape_161 rfl (lv_at hl 0 rfl) ?_
                    obtain ⟨rfl, rfl⟩ := hE
                    exact en_i F hS _ () (by rfl) rfl hP hD (Nat.le_refl _) (Nat.le_refl _) dX6_escape_162
                  ·
                    rw [if_neg h103] at hE
                    refine lv_iload_n hx hb dX6_escape_140 rfl (lv_at hl 1 rfl) ?_
                    refine lv_bipush (v := 119) hx hb dX6_escape_141 (by decide) ?_
                    refine lv_icmp_ne (tgt := 155) hx hb dX6_escape_143 (by decide) (fun h106 => ?_) (fun h106 => ?_)
                    ·
                      rw [if_neg h106] at hE
                      refine lv_aload_n hx hb dX6_escape_155 rfl (lv_at hl 2 rfl) ?_
                      refine lv_iload_n hx hb dX6_escape_156 rfl (lv_at hl 0 rfl) ?_
                      refine lv_iload_n hx hb dX6_escape_157 rfl (lv_at hl 1 rfl) ?_
                      obtain ⟨R107, hg, hE⟩ := hE
                      refine kA_v (va_runV (As := [.int r102, .int r2]) (rest := []) F.1 (e_include l G h q R101 r102 r2 R107 0 hg _) (cwV 2 hts (aw_V w_1080 w_1082 ws_X6_include w_6 w_1083) rfl rfl rfl (by decide +kernel) ⟨by decide, by decide⟩) ⟨cS_blind, va_recv (q := (RX6, TX6, 48)) (ci := 6) (q0 := 0) hK.1 hP rfl mW_0, cS_pre hP hD hK⟩ rfl rfl hl.1 rfl (lv_room (Nat.le_of_ble_eq_true rfl)) dX6_escape_158 ⟨Nat.le_refl _, Nat.le_refl _⟩) hD hS hA (fun u0 H locs hp hP hD hS => ?_)
                      refine lv_iload_n hx hb dX6_escape_161 rfl (lv_at hl 0 rfl) ?_
                      obtain ⟨rfl, rfl⟩ := hE
                      exact en_i F hS _ () (by rfl) rfl hP hD (Nat.le_refl _) (Nat.le_refl _) dX6_escape_162
                    ·
                      rw [if_pos h106] at hE
                      refine lv_aload_n hx hb dX6_escape_146 rfl (lv_at hl 2 rfl) ?_
                      refine lv_iload_n hx hb dX6_escape_147 rfl (lv_at hl 0 rfl) ?_
                      refine lv_iload_n hx hb dX6_escape_148 rfl (lv_at hl 1 rfl) ?_
                      obtain ⟨R109, hg, hE⟩ := hE
                      refine kA_v (va_runV (As := [.int r102, .int r2]) (rest := []) F.1 (e_includeKind l G h q R101 r102 r2 R109 0 hg _) (cwV 2 hts (aw_V w_1073 w_1075 ws_X6_includeKind w_6 w_1076) rfl rfl rfl (by decide +kernel) ⟨by decide, by decide⟩) ⟨cS_blind, va_recv (q := (RX6, TX6, 48)) (ci := 6) (q0 := 0) hK.1 hP rfl mW_0, cS_pre hP hD hK⟩ rfl rfl hl.1 rfl (lv_room (Nat.le_of_ble_eq_true rfl)) dX6_escape_149 ⟨Nat.le_refl _, Nat.le_refl _⟩) hD hS hA (fun u0 H locs hp hP hD hS => ?_)
                      refine lv_goto (tgt := 161) hx hb dX6_escape_152 (by decide) ?_
                      refine lv_iload_n hx hb dX6_escape_161 rfl (lv_at hl 0 rfl) ?_
                      obtain ⟨rfl, rfl⟩ := hE
                      exact en_i F hS _ () (by rfl) rfl hP hD (Nat.le_refl _) (Nat.le_refl _) dX6_escape_162
                ·
                  rw [if_pos h100] at hE
                  refine lv_iconst (v := (-1)) hx hb dX6_escape_126 (by decide) ?_
                  obtain ⟨rfl, rfl⟩ := hE
                  exact en_i F hS _ () (by rfl) rfl hP hD (Nat.le_refl _) (Nat.le_refl _) dX6_escape_127
        ·
          rw [if_pos h65] at hE
          refine lv_aload_n hx hb dX6_escape_84 rfl (lv_at hl 1 rfl) ?_
          refine lv_iload_n hx hb dX6_escape_85 rfl (lv_at hl 0 rfl) ?_
          refine lv_bipush (v := 98) hx hb dX6_escape_86 (by decide) ?_
          refine jn_v (v := (if r2 = 98 then 5 else 6 : Int32)) (pcM := 97) (rest := [.ref h]) (fun kM => ?_) ?_
          ·
            refine lv_icmp_ne (tgt := 95) hx hb dX6_escape_88 (by decide) (fun h112 => ?_) (fun h112 => ?_)
            ·
              refine lv_bipush (v := 6) hx hb dX6_escape_95 (by decide) ?_
              exact kM _ (by try rw [if_neg h112])
            ·
              refine lv_iconst (v := 5) hx hb dX6_escape_91 (by decide) ?_
              refine lv_goto (tgt := 97) hx hb dX6_escape_92 (by decide) ?_
              exact kM _ (by try rw [if_pos h112])
          obtain ⟨R113, r114, hg, hE⟩ := hE
          refine kA_i (va_runV (As := [.int (if r2 = 98 then 5 else 6 : Int32)]) (rest := []) F.1 (e_create l G h q (mf R1 17 ((R1.1 17) + 1)) (if r2 = 98 then 5 else 6 : Int32) R113 r114 hg _) (cwV 1 hts (aw_V w_1023 w_1025 ws_X6_create w_6 w_1026) rfl rfl rfl (by decide +kernel) ⟨by decide, by decide⟩) ⟨cS_blind, va_recv (q := (RX6, TX6, 48)) (ci := 6) (q0 := 0) hK.1 hP rfl mW_0, cS_pre hP hD hK⟩ rfl rfl hl.1 rfl (lv_room (Nat.le_of_ble_eq_true rfl)) dX6_escape_97 ⟨Nat.le_refl _, Nat.le_refl _⟩) hD hS hA (fun r9 u0 H locs hp hP hD hS => ?_)
          have hp := hp.symm; subst hp
          obtain ⟨rfl, rfl⟩ := hE
          exact en_i F hS _ () (by rfl) rfl hP hD (Nat.le_refl _) (Nat.le_refl _) dX6_escape_100
    ·
      rw [if_neg h59] at hE
      refine lv_iload_n hx hb dX6_escape_28 rfl (lv_at hl 0 rfl) ?_
      refine lv_bipush (v := 48) hx hb dX6_escape_29 (by decide) ?_
      refine lv_isub hx hb dX6_escape_31 ?_
      refine lv_aload_n hx hb dX6_escape_32 rfl (lv_at hl 1 rfl) ?_
      refine va_get (D := G.1) (ci := 6) (C := RX6) (T := TX6) (N := 48) hx hb hts inX6 hown hK.1 hP 0 mW_0 rfl 6 (by decide) (hts _ w_852) (fun _ h9 => h9) mF_6 dX6_escape_33 ?_
      refine tp_i (R1.1 6) rfl ?_
      refine lv_icmp_gt (tgt := 51) hx hb dX6_escape_36 (by decide) (fun h115 => ?_) (fun h115 => ?_)
      ·
        rw [if_pos h115] at hE
        refine lv_iconst (v := (-1)) hx hb dX6_escape_51 (by decide) ?_
        obtain ⟨rfl, rfl⟩ := hE
        exact en_i F hS _ () (by rfl) rfl hP hD (Nat.le_refl _) (Nat.le_refl _) dX6_escape_52
      ·
        rw [if_neg h115] at hE
        refine lv_aload_n hx hb dX6_escape_39 rfl (lv_at hl 1 rfl) ?_
        refine va_get (D := G.1) (ci := 6) (C := RX6) (T := TX6) (N := 48) hx hb hts inX6 hown hK.1 hP 0 mW_0 rfl 22 (by decide) (hts _ w_868) (fun _ h9 => h9) mF_22 dX6_escape_40 ?_
        refine lv_aload_n hx hb dX6_escape_43 rfl (lv_at hl 1 rfl) ?_
        refine va_get (D := G.1) (ci := 6) (C := RX6) (T := TX6) (N := 48) hx hb hts inX6 hown hK.1 hP 0 mW_0 rfl 16 (by decide) (hts _ w_862) (fun _ h9 => h9) mF_16 dX6_escape_44 ?_
        refine tp_i (R1.1 16) rfl ?_
        obtain ⟨hin, hE⟩ := hE
        refine va_zald (D := G.1) hx hb hK.1 hP 15 3 mW_g22 rfl hin dX6_escape_47 ?_
        refine tp_i (R1.2.1 22 (R1.1 16).toNatClampNeg) rfl ?_
        refine lv_if_eq (tgt := 53) hx hb dX6_escape_48 (by decide) (fun h116 => ?_) (fun h116 => ?_)
        ·
          rw [if_pos h116] at hE
          refine lv_aload_n hx hb dX6_escape_53 rfl (lv_at hl 1 rfl) ?_
          refine lv_bipush (v := 7) hx hb dX6_escape_54 (by decide) ?_
          obtain ⟨R117, r118, hg, hE⟩ := hE
          refine kA_i (va_runV (As := [.int 7]) (rest := []) F.1 (e_create l G h q (mf R1 17 ((R1.1 17) + 1)) 7 R117 r118 hg _) (cwV 1 hts (aw_V w_1023 w_1025 ws_X6_create w_6 w_1026) rfl rfl rfl (by decide +kernel) ⟨by decide, by decide⟩) ⟨cS_blind, va_recv (q := (RX6, TX6, 48)) (ci := 6) (q0 := 0) hK.1 hP rfl mW_0, cS_pre hP hD hK⟩ rfl rfl hl.1 rfl (lv_room (Nat.le_of_ble_eq_true rfl)) dX6_escape_56 ⟨Nat.le_refl _, Nat.le_refl _⟩) hD hS hA (fun r9 u0 H locs hp hP hD hS => ?_)
          have hp := hp.symm; subst hp
          refine lv_istore_n hx hb dX6_escape_59 rfl hl (by decide) rfl (fun ls hl => ?_)
          have hl : lv_has ls 3 [(2, .int r118), (1, .int r2), (0, .ref h)] := hl
          refine lv_aload_n hx hb dX6_escape_60 rfl (lv_at hl 2 rfl) ?_
          refine va_get (D := G.1) (ci := 6) (C := RX6) (T := TX6) (N := 48) hx hb hts inX6 hown hK.1 hP 0 mW_0 rfl 9 (by decide) (hts _ w_855) (fun _ h9 => h9) mF_9 dX6_escape_61 ?_
          refine lv_iload_n hx hb dX6_escape_64 rfl (lv_at hl 0 rfl) ?_
          refine lv_iload_n hx hb dX6_escape_65 rfl (lv_at hl 1 rfl) ?_
          refine lv_bipush (v := 48) hx hb dX6_escape_66 (by decide) ?_
          refine lv_isub hx hb dX6_escape_68 ?_
          obtain ⟨hin, hE⟩ := hE
          refine va_iast (D := G.1) hx hb hK.1 hP hD hS 4 0 mW_g9 rfl hin dX6_escape_69 (fun H locs hP hD hS => ?_)
          rw [mW_a9] at hP hD
          refine lv_iload_n hx hb dX6_escape_70 rfl (lv_at hl 0 rfl) ?_
          obtain ⟨rfl, rfl⟩ := hE
          exact en_i F hS _ () (by rfl) rfl hP hD (Nat.le_refl _) (Nat.le_refl _) dX6_escape_71
        ·
          rw [if_neg h116] at hE
          refine lv_iconst (v := (-1)) hx hb dX6_escape_51 (by decide) ?_
          obtain ⟨rfl, rfl⟩ := hE
          exact en_i F hS _ () (by rfl) rfl hP hD (Nat.le_refl _) (Nat.le_refl _) dX6_escape_52

theorem dX6_atom_0 : decode cX6_atom 0 = .ok (.aload_n 0, 1) := by decide +kernel
theorem dX6_atom_1 : decode cX6_atom 1 = .ok (.dup, 1) := by decide +kernel
theorem dX6_atom_2 : decode cX6_atom 2 = .ok (.getfield 114, 3) := by decide +kernel
theorem dX6_atom_5 : decode cX6_atom 5 = .ok (.iconst 1, 1) := by decide +kernel
theorem dX6_atom_6 : decode cX6_atom 6 = .ok (.iadd, 1) := by decide +kernel
theorem dX6_atom_7 : decode cX6_atom 7 = .ok (.putfield 114, 3) := by decide +kernel
theorem dX6_atom_10 : decode cX6_atom 10 = .ok (.iload_n 1, 1) := by decide +kernel
theorem dX6_atom_11 : decode cX6_atom 11 = .ok (.bipush 92, 2) := by decide +kernel
theorem dX6_atom_13 : decode cX6_atom 13 = .ok (.if_icmp .ne 8, 3) := by decide +kernel
theorem dX6_atom_16 : decode cX6_atom 16 = .ok (.aload_n 0, 1) := by decide +kernel
theorem dX6_atom_17 : decode cX6_atom 17 = .ok (.invokevirtual 165, 3) := by decide +kernel
theorem dX6_atom_20 : decode cX6_atom 20 = .ok (.ireturn, 1) := by decide +kernel
theorem dX6_atom_21 : decode cX6_atom 21 = .ok (.iload_n 1, 1) := by decide +kernel
theorem dX6_atom_22 : decode cX6_atom 22 = .ok (.bipush 91, 2) := by decide +kernel
theorem dX6_atom_24 : decode cX6_atom 24 = .ok (.if_icmp .ne 8, 3) := by decide +kernel
theorem dX6_atom_27 : decode cX6_atom 27 = .ok (.aload_n 0, 1) := by decide +kernel
theorem dX6_atom_28 : decode cX6_atom 28 = .ok (.invokevirtual 169, 3) := by decide +kernel
theorem dX6_atom_31 : decode cX6_atom 31 = .ok (.ireturn, 1) := by decide +kernel
theorem dX6_atom_32 : decode cX6_atom 32 = .ok (.iload_n 1, 1) := by decide +kernel
theorem dX6_atom_33 : decode cX6_atom 33 = .ok (.bipush 94, 2) := by decide +kernel
theorem dX6_atom_35 : decode cX6_atom 35 = .ok (.if_icmp .ne 9, 3) := by decide +kernel
theorem dX6_atom_38 : decode cX6_atom 38 = .ok (.aload_n 0, 1) := by decide +kernel
theorem dX6_atom_39 : decode cX6_atom 39 = .ok (.iconst 3, 1) := by decide +kernel
theorem dX6_atom_40 : decode cX6_atom 40 = .ok (.invokevirtual 123, 3) := by decide +kernel
theorem dX6_atom_43 : decode cX6_atom 43 = .ok (.ireturn, 1) := by decide +kernel
theorem dX6_atom_44 : decode cX6_atom 44 = .ok (.iload_n 1, 1) := by decide +kernel
theorem dX6_atom_45 : decode cX6_atom 45 = .ok (.bipush 36, 2) := by decide +kernel
theorem dX6_atom_47 : decode cX6_atom 47 = .ok (.if_icmp .ne 9, 3) := by decide +kernel
theorem dX6_atom_50 : decode cX6_atom 50 = .ok (.aload_n 0, 1) := by decide +kernel
theorem dX6_atom_51 : decode cX6_atom 51 = .ok (.iconst 4, 1) := by decide +kernel
theorem dX6_atom_52 : decode cX6_atom 52 = .ok (.invokevirtual 123, 3) := by decide +kernel
theorem dX6_atom_55 : decode cX6_atom 55 = .ok (.ireturn, 1) := by decide +kernel
theorem dX6_atom_56 : decode cX6_atom 56 = .ok (.iload_n 1, 1) := by decide +kernel
theorem dX6_atom_57 : decode cX6_atom 57 = .ok (.bipush 46, 2) := by decide +kernel
theorem dX6_atom_59 : decode cX6_atom 59 = .ok (.if_icmp .eq 12, 3) := by decide +kernel
theorem dX6_atom_62 : decode cX6_atom 62 = .ok (.iload_n 1, 1) := by decide +kernel
theorem dX6_atom_63 : decode cX6_atom 63 = .ok (.invokestatic 172, 3) := by decide +kernel
theorem dX6_atom_66 : decode cX6_atom 66 = .ok (.ifCond .eq 5, 3) := by decide +kernel
theorem dX6_atom_69 : decode cX6_atom 69 = .ok (.iconst (-1), 1) := by decide +kernel
theorem dX6_atom_70 : decode cX6_atom 70 = .ok (.ireturn, 1) := by decide +kernel
theorem dX6_atom_71 : decode cX6_atom 71 = .ok (.aload_n 0, 1) := by decide +kernel
theorem dX6_atom_72 : decode cX6_atom 72 = .ok (.iconst 2, 1) := by decide +kernel
theorem dX6_atom_73 : decode cX6_atom 73 = .ok (.invokevirtual 123, 3) := by decide +kernel
theorem dX6_atom_76 : decode cX6_atom 76 = .ok (.istore_n 2, 1) := by decide +kernel
theorem dX6_atom_77 : decode cX6_atom 77 = .ok (.iload_n 1, 1) := by decide +kernel
theorem dX6_atom_78 : decode cX6_atom 78 = .ok (.bipush 46, 2) := by decide +kernel
theorem dX6_atom_80 : decode cX6_atom 80 = .ok (.if_icmp .ne 13, 3) := by decide +kernel
theorem dX6_atom_83 : decode cX6_atom 83 = .ok (.aload_n 0, 1) := by decide +kernel
theorem dX6_atom_84 : decode cX6_atom 84 = .ok (.iload_n 2, 1) := by decide +kernel
theorem dX6_atom_85 : decode cX6_atom 85 = .ok (.bipush 46, 2) := by decide +kernel
theorem dX6_atom_87 : decode cX6_atom 87 = .ok (.invokevirtual 175, 3) := by decide +kernel
theorem dX6_atom_90 : decode cX6_atom 90 = .ok (.goto 9, 3) := by decide +kernel
theorem dX6_atom_93 : decode cX6_atom 93 = .ok (.aload_n 0, 1) := by decide +kernel
theorem dX6_atom_94 : decode cX6_atom 94 = .ok (.iload_n 2, 1) := by decide +kernel
theorem dX6_atom_95 : decode cX6_atom 95 = .ok (.iload_n 1, 1) := by decide +kernel
theorem dX6_atom_96 : decode cX6_atom 96 = .ok (.invokevirtual 136, 3) := by decide +kernel
theorem dX6_atom_99 : decode cX6_atom 99 = .ok (.iload_n 2, 1) := by decide +kernel
theorem dX6_atom_100 : decode cX6_atom 100 = .ok (.ireturn, 1) := by decide +kernel
def E_atom (R : RS) (a1 : Int32) (R' : RS) (r : Int32) : Prop := if a1 = 92 then (∃ (R28 : RS) (r29 : Int32), E_escape (mf R 17 ((R.1 17) + 1)) R28 r29 ∧ (R' = R28 ∧ r = r29)) else (if a1 = 91 then (∃ (R26 : RS) (r27 : Int32), E_items (mf R 17 ((R.1 17) + 1)) R26 r27 ∧ (R' = R26 ∧ r = r27)) else (if a1 = 94 then (∃ (R24 : RS) (r25 : Int32), E_create (mf R 17 ((R.1 17) + 1)) 3 R24 r25 ∧ (R' = R24 ∧ r = r25)) else (if a1 = 36 then (∃ (R22 : RS) (r23 : Int32), E_create (mf R 17 ((R.1 17) + 1)) 4 R22 r23 ∧ (R' = R22 ∧ r = r23)) else (if a1 = 46 then (∃ (R6 : RS) (r7 : Int32), E_create (mf R 17 ((R.1 17) + 1)) 2 R6 r7 ∧ (if a1 = 46 then (∃ R11 : RS, E_includeKind R6 r7 46 R11 0 ∧ (R' = R11 ∧ r = r7)) else (∃ R9 : RS, E_include R6 r7 a1 R9 0 ∧ (R' = R9 ∧ r = r7)))) else (∃ r13 : Int32, E_isSpecial a1 r13 ∧ (if r13 = 0 then (∃ (R15 : RS) (r16 : Int32), E_create (mf R 17 ((R.1 17) + 1)) 2 R15 r16 ∧ (if a1 = 46 then (∃ R20 : RS, E_includeKind R15 r16 46 R20 0 ∧ (R' = R20 ∧ r = r16)) else (∃ R18 : RS, E_include R15 r16 a1 R18 0 ∧ (R' = R18 ∧ r = r16)))) else (R' = (mf R 17 ((R.1 17) + 1)) ∧ r = (-1))))))))
set_option maxHeartbeats 4000000 in
set_option maxRecDepth 100000 in
theorem e_atom (l : Launch) (G : PG) (h : Nat) (q : Nat → Nat) (R : RS) (a1 : Int32) (R' : RS) (r : Int32) (hE : E_atom R a1 R' r) : Ci l yX6_atom (Cond.code yX6_atom cX6_atom 3 (some .int) :: aW) { frames := 4, cells := 0, slots := 0, locals := 92 } G (mW G h q R) [.ref h, .int a1] (fun (r9 : Int32) (_ : Unit) => r9 = r) (fun (_ : Unit) => mW G h q R') 0 0 := by
  refine ofB (y := yX6_atom) (G := G) (cc := cX6_atom) (maxL := 3) (ret := (some .int)) (Qc := fun A => va_Qi (fun (r9 : Int32) (_ : Unit) => r9 = r) (oB G A (fun (_ : Unit) => mW G h q R')) A) (by decide) rfl ?_
  intro p e s m below meth c A F hK hA hP hD
  have hS : va_S A s.heap s.heap [] := va_S.rf
  have hx := F.1.1; have hb := F.1.2.1; have hml := F.1.2.2.1; have hts := F.1.2.2.2.2
  have hown : s.vm.findClass RX6 = some m.cls := F.1.2.2.2.1
  have hl := lv_entry ([.ref h, .int a1]) (n := 3) (Nat.le_of_ble_eq_true rfl)
  rw [lg_entry_eq]
  generalize (lg_sl ([.ref h, .int a1]) ++ List.replicate (3 - (lg_sl ([.ref h, .int a1])).length) Slot.unset).toArray = ls at hl ⊢
  have hl : lv_has ls 3 [(0, .ref h), (1, .int a1)] := hl
  unfold E_atom at hE
  refine lv_aload_n hx hb dX6_atom_0 rfl (lv_at hl 0 rfl) ?_
  refine lv_dup hx hb dX6_atom_1 rfl ?_
  refine va_get (D := G.1) (ci := 6) (C := RX6) (T := TX6) (N := 48) hx hb hts inX6 hown hK.1 hP 0 mW_0 rfl 17 (by decide) (hts _ w_863) (fun _ h9 => h9) mF_17 dX6_atom_2 ?_
  refine lv_iconst (v := 1) hx hb dX6_atom_5 (by decide) ?_
  refine lv_iadd hx hb dX6_atom_6 ?_
  refine va_put (D := G.1) (ci := 6) (v := .int ((R.1 17) + 1)) (ty := .int) (C := RX6) (T := TX6) (N := 48) hx hb hts inX6 tyX6 tyX6_ok nmX6 hown hK.1 hP hD hS 0 mW_0 rfl 17 (by decide) (hts _ w_863) (fun _ h9 => h9) rfl (by decide +kernel) rfl rfl mF_l17 dX6_atom_7 (fun H locs hP hD hS => ?_)
  rw [mW_f17] at hP hD
  refine lv_iload_n hx hb dX6_atom_10 rfl (lv_at hl 1 rfl) ?_
  refine lv_bipush (v := 92) hx hb dX6_atom_11 (by decide) ?_
  refine lv_icmp_ne (tgt := 21) hx hb dX6_atom_13 (by decide) (fun h1 => ?_) (fun h1 => ?_)
  ·
    rw [if_neg h1] at hE
    refine lv_iload_n hx hb dX6_atom_21 rfl (lv_at hl 1 rfl) ?_
    refine lv_bipush (v := 91) hx hb dX6_atom_22 (by decide) ?_
    refine lv_icmp_ne (tgt := 32) hx hb dX6_atom_24 (by decide) (fun h2 => ?_) (fun h2 => ?_)
    ·
      rw [if_neg h2] at hE
      refine lv_iload_n hx hb dX6_atom_32 rfl (lv_at hl 1 rfl) ?_
      refine lv_bipush (v := 94) hx hb dX6_atom_33 (by decide) ?_
      refine lv_icmp_ne (tgt := 44) hx hb dX6_atom_35 (by decide) (fun h3 => ?_) (fun h3 => ?_)
      ·
        rw [if_neg h3] at hE
        refine lv_iload_n hx hb dX6_atom_44 rfl (lv_at hl 1 rfl) ?_
        refine lv_bipush (v := 36) hx hb dX6_atom_45 (by decide) ?_
        refine lv_icmp_ne (tgt := 56) hx hb dX6_atom_47 (by decide) (fun h4 => ?_) (fun h4 => ?_)
        ·
          rw [if_neg h4] at hE
          refine lv_iload_n hx hb dX6_atom_56 rfl (lv_at hl 1 rfl) ?_
          refine lv_bipush (v := 46) hx hb dX6_atom_57 (by decide) ?_
          refine lv_icmp_eq (tgt := 71) hx hb dX6_atom_59 (by decide) (fun h5 => ?_) (fun h5 => ?_)
          ·
            rw [if_pos h5] at hE
            refine lv_aload_n hx hb dX6_atom_71 rfl (lv_at hl 0 rfl) ?_
            refine lv_iconst (v := 2) hx hb dX6_atom_72 (by decide) ?_
            obtain ⟨R6, r7, hg, hE⟩ := hE
            refine kA_i (va_runV (As := [.int 2]) (rest := []) F.1 (e_create l G h q (mf R 17 ((R.1 17) + 1)) 2 R6 r7 hg _) (cwV 1 hts (aw_V w_1023 w_1025 ws_X6_create w_6 w_1026) rfl rfl rfl (by decide +kernel) ⟨by decide, by decide⟩) ⟨cS_blind, va_recv (q := (RX6, TX6, 48)) (ci := 6) (q0 := 0) hK.1 hP rfl mW_0, cS_pre hP hD hK⟩ rfl rfl hl.1 rfl (lv_room (Nat.le_of_ble_eq_true rfl)) dX6_atom_73 ⟨Nat.le_refl _, Nat.le_refl _⟩) hD hS hA (fun r9 u0 H locs hp hP hD hS => ?_)
            have hp := hp.symm; subst hp
            refine lv_istore_n hx hb dX6_atom_76 rfl hl (by decide) rfl (fun ls hl => ?_)
            have hl : lv_has ls 3 [(2, .int r7), (0, .ref h), (1, .int a1)] := hl
            refine lv_iload_n hx hb dX6_atom_77 rfl (lv_at hl 2 rfl) ?_
            refine lv_bipush (v := 46) hx hb dX6_atom_78 (by decide) ?_
            refine lv_icmp_ne (tgt := 93) hx hb dX6_atom_80 (by decide) (fun h8 => ?_) (fun h8 => ?_)
            ·
              rw [if_neg h8] at hE
              refine lv_aload_n hx hb dX6_atom_93 rfl (lv_at hl 1 rfl) ?_
              refine lv_iload_n hx hb dX6_atom_94 rfl (lv_at hl 0 rfl) ?_
              refine lv_iload_n hx hb dX6_atom_95 rfl (lv_at hl 2 rfl) ?_
              obtain ⟨R9, hg, hE⟩ := hE
              refine kA_v (va_runV (As := [.int r7, .int a1]) (rest := []) F.1 (e_include l G h q R6 r7 a1 R9 0 hg _) (cwV 2 hts (aw_V w_1080 w_1082 ws_X6_include w_6 w_1083) rfl rfl rfl (by decide +kernel) ⟨by decide, by decide⟩) ⟨cS_blind, va_recv (q := (RX6, TX6, 48)) (ci := 6) (q0 := 0) hK.1 hP rfl mW_0, cS_pre hP hD hK⟩ rfl rfl hl.1 rfl (lv_room (Nat.le_of_ble_eq_true rfl)) dX6_atom_96 ⟨Nat.le_refl _, Nat.le_refl _⟩) hD hS hA (fun u0 H locs hp hP hD hS => ?_)
              refine lv_iload_n hx hb dX6_atom_99 rfl (lv_at hl 0 rfl) ?_
              obtain ⟨rfl, rfl⟩ := hE
              exact en_i F hS _ () (by rfl) rfl hP hD (Nat.le_refl _) (Nat.le_refl _) dX6_atom_100
            ·
              rw [if_pos h8] at hE
              refine lv_aload_n hx hb dX6_atom_83 rfl (lv_at hl 1 rfl) ?_
              refine lv_iload_n hx hb dX6_atom_84 rfl (lv_at hl 0 rfl) ?_
              refine lv_bipush (v := 46) hx hb dX6_atom_85 (by decide) ?_
              obtain ⟨R11, hg, hE⟩ := hE
              refine kA_v (va_runV (As := [.int r7, .int 46]) (rest := []) F.1 (e_includeKind l G h q R6 r7 46 R11 0 hg _) (cwV 2 hts (aw_V w_1073 w_1075 ws_X6_includeKind w_6 w_1076) rfl rfl rfl (by decide +kernel) ⟨by decide, by decide⟩) ⟨cS_blind, va_recv (q := (RX6, TX6, 48)) (ci := 6) (q0 := 0) hK.1 hP rfl mW_0, cS_pre hP hD hK⟩ rfl rfl hl.1 rfl (lv_room (Nat.le_of_ble_eq_true rfl)) dX6_atom_87 ⟨Nat.le_refl _, Nat.le_refl _⟩) hD hS hA (fun u0 H locs hp hP hD hS => ?_)
              refine lv_goto (tgt := 99) hx hb dX6_atom_90 (by decide) ?_
              refine lv_iload_n hx hb dX6_atom_99 rfl (lv_at hl 0 rfl) ?_
              obtain ⟨rfl, rfl⟩ := hE
              exact en_i F hS _ () (by rfl) rfl hP hD (Nat.le_refl _) (Nat.le_refl _) dX6_atom_100
          ·
            rw [if_neg h5] at hE
            refine lv_iload_n hx hb dX6_atom_62 rfl (lv_at hl 1 rfl) ?_
            obtain ⟨r13, hg, hE⟩ := hE
            refine kp_i (va_runS (As := [.int a1]) (rest := []) F.1 (e_isSpecial l G a1 r13 hg _) (va_cwS 1 hts (aw_S w_1070 w_1071 w_6 w_1072) rfl rfl rfl (by decide +kernel) ⟨by decide, by decide⟩) ⟨cS_blind, cS_pre va_P0 (va_D0 (A := A)) hK⟩ rfl rfl hl.1 rfl (lv_room (Nat.le_of_ble_eq_true rfl)) dX6_atom_63 ⟨Nat.le_refl _, Nat.le_refl _⟩) (fun r9 hp => ?_)
            have hp := hp.symm; subst hp
            refine lv_if_eq (tgt := 71) hx hb dX6_atom_66 (by decide) (fun h14 => ?_) (fun h14 => ?_)
            ·
              rw [if_pos h14] at hE
              refine lv_aload_n hx hb dX6_atom_71 rfl (lv_at hl 0 rfl) ?_
              refine lv_iconst (v := 2) hx hb dX6_atom_72 (by decide) ?_
              obtain ⟨R15, r16, hg, hE⟩ := hE
              refine kA_i (va_runV (As := [.int 2]) (rest := []) F.1 (e_create l G h q (mf R 17 ((R.1 17) + 1)) 2 R15 r16 hg _) (cwV 1 hts (aw_V w_1023 w_1025 ws_X6_create w_6 w_1026) rfl rfl rfl (by decide +kernel) ⟨by decide, by decide⟩) ⟨cS_blind, va_recv (q := (RX6, TX6, 48)) (ci := 6) (q0 := 0) hK.1 hP rfl mW_0, cS_pre hP hD hK⟩ rfl rfl hl.1 rfl (lv_room (Nat.le_of_ble_eq_true rfl)) dX6_atom_73 ⟨Nat.le_refl _, Nat.le_refl _⟩) hD hS hA (fun r9 u0 H locs hp hP hD hS => ?_)
              have hp := hp.symm; subst hp
              refine lv_istore_n hx hb dX6_atom_76 rfl hl (by decide) rfl (fun ls hl => ?_)
              have hl : lv_has ls 3 [(2, .int r16), (0, .ref h), (1, .int a1)] := hl
              refine lv_iload_n hx hb dX6_atom_77 rfl (lv_at hl 2 rfl) ?_
              refine lv_bipush (v := 46) hx hb dX6_atom_78 (by decide) ?_
              refine lv_icmp_ne (tgt := 93) hx hb dX6_atom_80 (by decide) (fun h17 => ?_) (fun h17 => ?_)
              ·
                rw [if_neg h17] at hE
                refine lv_aload_n hx hb dX6_atom_93 rfl (lv_at hl 1 rfl) ?_
                refine lv_iload_n hx hb dX6_atom_94 rfl (lv_at hl 0 rfl) ?_
                refine lv_iload_n hx hb dX6_atom_95 rfl (lv_at hl 2 rfl) ?_
                obtain ⟨R18, hg, hE⟩ := hE
                refine kA_v (va_runV (As := [.int r16, .int a1]) (rest := []) F.1 (e_include l G h q R15 r16 a1 R18 0 hg _) (cwV 2 hts (aw_V w_1080 w_1082 ws_X6_include w_6 w_1083) rfl rfl rfl (by decide +kernel) ⟨by decide, by decide⟩) ⟨cS_blind, va_recv (q := (RX6, TX6, 48)) (ci := 6) (q0 := 0) hK.1 hP rfl mW_0, cS_pre hP hD hK⟩ rfl rfl hl.1 rfl (lv_room (Nat.le_of_ble_eq_true rfl)) dX6_atom_96 ⟨Nat.le_refl _, Nat.le_refl _⟩) hD hS hA (fun u0 H locs hp hP hD hS => ?_)
                refine lv_iload_n hx hb dX6_atom_99 rfl (lv_at hl 0 rfl) ?_
                obtain ⟨rfl, rfl⟩ := hE
                exact en_i F hS _ () (by rfl) rfl hP hD (Nat.le_refl _) (Nat.le_refl _) dX6_atom_100
              ·
                rw [if_pos h17] at hE
                refine lv_aload_n hx hb dX6_atom_83 rfl (lv_at hl 1 rfl) ?_
                refine lv_iload_n hx hb dX6_atom_84 rfl (lv_at hl 0 rfl) ?_
                refine lv_bipush (v := 46) hx hb dX6_atom_85 (by decide) ?_
                obtain ⟨R20, hg, hE⟩ := hE
                refine kA_v (va_runV (As := [.int r16, .int 46]) (rest := []) F.1 (e_includeKind l G h q R15 r16 46 R20 0 hg _) (cwV 2 hts (aw_V w_1073 w_1075 ws_X6_includeKind w_6 w_1076) rfl rfl rfl (by decide +kernel) ⟨by decide, by decide⟩) ⟨cS_blind, va_recv (q := (RX6, TX6, 48)) (ci := 6) (q0 := 0) hK.1 hP rfl mW_0, cS_pre hP hD hK⟩ rfl rfl hl.1 rfl (lv_room (Nat.le_of_ble_eq_true rfl)) dX6_atom_87 ⟨Nat.le_refl _, Nat.le_refl _⟩) hD hS hA (fun u0 H locs hp hP hD hS => ?_)
                refine lv_goto (tgt := 99) hx hb dX6_atom_90 (by decide) ?_
                refine lv_iload_n hx hb dX6_atom_99 rfl (lv_at hl 0 rfl) ?_
                obtain ⟨rfl, rfl⟩ := hE
                exact en_i F hS _ () (by rfl) rfl hP hD (Nat.le_refl _) (Nat.le_refl _) dX6_atom_100
            ·
              rw [if_neg h14] at hE
              refine lv_iconst (v := (-1)) hx hb dX6_atom_69 (by decide) ?_
              obtain ⟨rfl, rfl⟩ := hE
              exact en_i F hS _ () (by rfl) rfl hP hD (Nat.le_refl _) (Nat.le_refl _) dX6_atom_70
        ·
          rw [if_pos h4] at hE
          refine lv_aload_n hx hb dX6_atom_50 rfl (lv_at hl 0 rfl) ?_
          refine lv_iconst (v := 4) hx hb dX6_atom_51 (by decide) ?_
          obtain ⟨R22, r23, hg, hE⟩ := hE
          refine kA_i (va_runV (As := [.int 4]) (rest := []) F.1 (e_create l G h q (mf R 17 ((R.1 17) + 1)) 4 R22 r23 hg _) (cwV 1 hts (aw_V w_1023 w_1025 ws_X6_create w_6 w_1026) rfl rfl rfl (by decide +kernel) ⟨by decide, by decide⟩) ⟨cS_blind, va_recv (q := (RX6, TX6, 48)) (ci := 6) (q0 := 0) hK.1 hP rfl mW_0, cS_pre hP hD hK⟩ rfl rfl hl.1 rfl (lv_room (Nat.le_of_ble_eq_true rfl)) dX6_atom_52 ⟨Nat.le_refl _, Nat.le_refl _⟩) hD hS hA (fun r9 u0 H locs hp hP hD hS => ?_)
          have hp := hp.symm; subst hp
          obtain ⟨rfl, rfl⟩ := hE
          exact en_i F hS _ () (by rfl) rfl hP hD (Nat.le_refl _) (Nat.le_refl _) dX6_atom_55
      ·
        rw [if_pos h3] at hE
        refine lv_aload_n hx hb dX6_atom_38 rfl (lv_at hl 0 rfl) ?_
        refine lv_iconst (v := 3) hx hb dX6_atom_39 (by decide) ?_
        obtain ⟨R24, r25, hg, hE⟩ := hE
        refine kA_i (va_runV (As := [.int 3]) (rest := []) F.1 (e_create l G h q (mf R 17 ((R.1 17) + 1)) 3 R24 r25 hg _) (cwV 1 hts (aw_V w_1023 w_1025 ws_X6_create w_6 w_1026) rfl rfl rfl (by decide +kernel) ⟨by decide, by decide⟩) ⟨cS_blind, va_recv (q := (RX6, TX6, 48)) (ci := 6) (q0 := 0) hK.1 hP rfl mW_0, cS_pre hP hD hK⟩ rfl rfl hl.1 rfl (lv_room (Nat.le_of_ble_eq_true rfl)) dX6_atom_40 ⟨Nat.le_refl _, Nat.le_refl _⟩) hD hS hA (fun r9 u0 H locs hp hP hD hS => ?_)
        have hp := hp.symm; subst hp
        obtain ⟨rfl, rfl⟩ := hE
        exact en_i F hS _ () (by rfl) rfl hP hD (Nat.le_refl _) (Nat.le_refl _) dX6_atom_43
    ·
      rw [if_pos h2] at hE
      refine lv_aload_n hx hb dX6_atom_27 rfl (lv_at hl 0 rfl) ?_
      obtain ⟨R26, r27, hg, hE⟩ := hE
      refine kA_i (va_runV (As := []) (rest := []) F.1 (e_items l G h q (mf R 17 ((R.1 17) + 1)) R26 r27 hg _) (cwV 0 hts (aw_V w_1084 w_1086 ws_X6_items w_6 w_1087) rfl rfl rfl (by decide +kernel) ⟨by decide, by decide⟩) ⟨cS_blind, va_recv (q := (RX6, TX6, 48)) (ci := 6) (q0 := 0) hK.1 hP rfl mW_0, cS_pre hP hD hK⟩ rfl rfl hl.1 rfl (lv_room (Nat.le_of_ble_eq_true rfl)) dX6_atom_28 ⟨Nat.le_refl _, Nat.le_refl _⟩) hD hS hA (fun r9 u0 H locs hp hP hD hS => ?_)
      have hp := hp.symm; subst hp
      obtain ⟨rfl, rfl⟩ := hE
      exact en_i F hS _ () (by rfl) rfl hP hD (Nat.le_refl _) (Nat.le_refl _) dX6_atom_31
  ·
    rw [if_pos h1] at hE
    refine lv_aload_n hx hb dX6_atom_16 rfl (lv_at hl 0 rfl) ?_
    obtain ⟨R28, r29, hg, hE⟩ := hE
    refine kA_i (va_runV (As := []) (rest := []) F.1 (e_escape l G h q (mf R 17 ((R.1 17) + 1)) R28 r29 hg _) (cwV 0 hts (aw_V w_1066 w_1068 ws_X6_escape w_6 w_1069) rfl rfl rfl (by decide +kernel) ⟨by decide, by decide⟩) ⟨cS_blind, va_recv (q := (RX6, TX6, 48)) (ci := 6) (q0 := 0) hK.1 hP rfl mW_0, cS_pre hP hD hK⟩ rfl rfl hl.1 rfl (lv_room (Nat.le_of_ble_eq_true rfl)) dX6_atom_17 ⟨Nat.le_refl _, Nat.le_refl _⟩) hD hS hA (fun r9 u0 H locs hp hP hD hS => ?_)
    have hp := hp.symm; subst hp
    obtain ⟨rfl, rfl⟩ := hE
    exact en_i F hS _ () (by rfl) rfl hP hD (Nat.le_refl _) (Nat.le_refl _) dX6_atom_20

theorem dX6_read_39 : decode cX6_read 39 = .ok (.aload_n 0, 1) := by decide +kernel
theorem dX6_read_40 : decode cX6_read 40 = .ok (.iconst 0, 1) := by decide +kernel
theorem dX6_read_41 : decode cX6_read 41 = .ok (.invokevirtual 147, 3) := by decide +kernel
theorem dX6_read_44 : decode cX6_read 44 = .ok (.istore_n 1, 1) := by decide +kernel
theorem dX6_read_45 : decode cX6_read 45 = .ok (.iload_n 1, 1) := by decide +kernel
theorem dX6_read_46 : decode cX6_read 46 = .ok (.bipush 124, 2) := by decide +kernel
theorem dX6_read_48 : decode cX6_read 48 = .ok (.if_icmp .ne 11, 3) := by decide +kernel
theorem dX6_read_51 : decode cX6_read 51 = .ok (.aload_n 0, 1) := by decide +kernel
theorem dX6_read_52 : decode cX6_read 52 = .ok (.invokevirtual 150, 3) := by decide +kernel
theorem dX6_read_55 : decode cX6_read 55 = .ok (.istore_n 2, 1) := by decide +kernel
theorem dX6_read_56 : decode cX6_read 56 = .ok (.goto 41, 3) := by decide +kernel
theorem dX6_read_59 : decode cX6_read 59 = .ok (.iload_n 1, 1) := by decide +kernel
theorem dX6_read_60 : decode cX6_read 60 = .ok (.bipush 40, 2) := by decide +kernel
theorem dX6_read_62 : decode cX6_read 62 = .ok (.if_icmp .ne 11, 3) := by decide +kernel
theorem dX6_read_65 : decode cX6_read 65 = .ok (.aload_n 0, 1) := by decide +kernel
theorem dX6_read_66 : decode cX6_read 66 = .ok (.invokevirtual 154, 3) := by decide +kernel
theorem dX6_read_69 : decode cX6_read 69 = .ok (.istore_n 2, 1) := by decide +kernel
theorem dX6_read_70 : decode cX6_read 70 = .ok (.goto 27, 3) := by decide +kernel
theorem dX6_read_73 : decode cX6_read 73 = .ok (.iload_n 1, 1) := by decide +kernel
theorem dX6_read_74 : decode cX6_read 74 = .ok (.bipush 41, 2) := by decide +kernel
theorem dX6_read_76 : decode cX6_read 76 = .ok (.if_icmp .ne 11, 3) := by decide +kernel
theorem dX6_read_79 : decode cX6_read 79 = .ok (.aload_n 0, 1) := by decide +kernel
theorem dX6_read_80 : decode cX6_read 80 = .ok (.invokevirtual 156, 3) := by decide +kernel
theorem dX6_read_83 : decode cX6_read 83 = .ok (.istore_n 2, 1) := by decide +kernel
theorem dX6_read_84 : decode cX6_read 84 = .ok (.goto 13, 3) := by decide +kernel
theorem dX6_read_87 : decode cX6_read 87 = .ok (.aload_n 0, 1) := by decide +kernel
theorem dX6_read_88 : decode cX6_read 88 = .ok (.aload_n 0, 1) := by decide +kernel
theorem dX6_read_89 : decode cX6_read 89 = .ok (.iload_n 1, 1) := by decide +kernel
theorem dX6_read_90 : decode cX6_read 90 = .ok (.invokevirtual 159, 3) := by decide +kernel
theorem dX6_read_93 : decode cX6_read 93 = .ok (.invokevirtual 162, 3) := by decide +kernel
theorem dX6_read_96 : decode cX6_read 96 = .ok (.istore_n 2, 1) := by decide +kernel
theorem dX6_read_97 : decode cX6_read 97 = .ok (.iload_n 2, 1) := by decide +kernel
theorem dX6_read_98 : decode cX6_read 98 = .ok (.ifCond .ne 5, 3) := by decide +kernel
theorem dX6_read_101 : decode cX6_read 101 = .ok (.iconst 0, 1) := by decide +kernel
theorem dX6_read_102 : decode cX6_read 102 = .ok (.ireturn, 1) := by decide +kernel
theorem dX6_read_103 : decode cX6_read 103 = .ok (.goto (-77), 3) := by decide +kernel
theorem dX6_read_117 : decode cX6_read 117 = .ok (.iconst 0, 1) := by decide +kernel
def L_read_26 : Nat → RS → RS → Int32 → Prop
  | 0, _, _, _ => False
  | nf + 1, R, R', r => vp_in 0 3 ∧ (if (R.2.1 2 (0 : Int32).toNatClampNeg) ≤ (R.1 17) then (narrow .boolean (.int (if (R.1 16) = 0 then 1 else 0 : Int32)) = .int (if (R.1 16) = 0 then 1 else 0 : Int32) ∧ R' = R ∧ r = (if (R.1 16) = 0 then 1 else 0 : Int32)) else (∃ (R6 : RS) (r7 : Int32), E_peek R 0 R6 r7 ∧ (if r7 = 124 then (∃ (R22 : RS) (r23 : Int32), E_bar R6 R22 r23 ∧ (if r23 = 0 then (R' = R22 ∧ r = 0) else (L_read_26 nf R22 R' r))) else (if r7 = 40 then (∃ (R19 : RS) (r20 : Int32), E_bracket R6 R19 r20 ∧ (if r20 = 0 then (R' = R19 ∧ r = 0) else (L_read_26 nf R19 R' r))) else (if r7 = 41 then (∃ (R16 : RS) (r17 : Int32), E_close R6 R16 r17 ∧ (if r17 = 0 then (R' = R16 ∧ r = 0) else (L_read_26 nf R16 R' r))) else (∃ (R11 : RS) (r12 : Int32), E_atom R6 r7 R11 r12 ∧ (∃ (R13 : RS) (r14 : Int32), E_loop R11 r12 R13 r14 ∧ (if r14 = 0 then (R' = R13 ∧ r = 0) else (L_read_26 nf R13 R' r)))))))))
set_option maxHeartbeats 4000000 in
set_option maxRecDepth 100000 in
theorem L_read_26_ok {l : Launch} {G : PG} {h : Nat} {q : Nat → Nat} {R' : RS} {r : Int32} {p : Program} {e : Env} {s : State} {m : MethodId} {below : List Frame} {meth : Method} {c : Code} {A : Nat → Prop} (F : bF p s m meth c cX6_read 3 (some .boolean) ([.ref h] : List Value).toArray yX6_read) (hK : pg_K G s) (hA : ∀ q, s.heap.size ≤ q → A q) : ∀ (nf : Nat) (R : RS) (H : Heap) (locs : List Loc) (ls : Array Slot), lv_has ls 3 [(0, .ref h)] → L_read_26 nf R R' r → va_P G.1 vwCl (mW G h q R) H → va_D A (mW G h q R) → va_S A s.heap H locs → W p l e { frames := 5, cells := 0, slots := 0, locals := 114 } s m ([.ref h] : List Value).toArray below meth c H locs 0 0 (MQ below (va_Qi (fun (r9 : Int32) (_ : Unit) => r9 = r) (oB G A (fun (_ : Unit) => mW G h q R')) A) ([.ref h] : List Value).toArray s 0 0 A) (F0 m 26 ls []) := by
  have hx := F.1.1; have hb := F.1.2.1; have hml := F.1.2.2.1; have hts := F.1.2.2.2.2
  have hown : s.vm.findClass RX6 = some m.cls := F.1.2.2.2.1
  intro nf
  induction nf with
  | zero => intro R H locs ls hl hE; exact hE.elim
  | succ nf ih =>
    intro R H locs ls hl hE hP hD hS
    unfold L_read_26 at hE
    refine lv_aload_n hx hb dX6_read_26 rfl (lv_at hl 0 rfl) ?_
    refine va_get (D := G.1) (ci := 6) (C := RX6) (T := TX6) (N := 48) hx hb hts inX6 hown hK.1 hP 0 mW_0 rfl 17 (by decide) (hts _ w_863) (fun _ h9 => h9) mF_17 dX6_read_27 ?_
    refine lv_aload_n hx hb dX6_read_30 rfl (lv_at hl 0 rfl) ?_
    refine va_get (D := G.1) (ci := 6) (C := RX6) (T := TX6) (N := 48) hx hb hts inX6 hown hK.1 hP 0 mW_0 rfl 2 (by decide) (hts _ w_848) (fun _ h9 => h9) mF_2 dX6_read_31 ?_
    refine lv_iconst (v := 0) hx hb dX6_read_34 (by decide) ?_
    obtain ⟨hin, hE⟩ := hE
    refine va_iald (D := G.1) hx hb hK.1 hP 2 0 mW_g2 rfl hin dX6_read_35 ?_
    refine lv_icmp_ge (tgt := 106) hx hb dX6_read_36 (by decide) (fun h3 => ?_) (fun h3 => ?_)
    ·
      rw [if_pos h3] at hE
      refine lv_aload_n hx hb dX6_read_106 rfl (lv_at hl 0 rfl) ?_
      refine va_get (D := G.1) (ci := 6) (C := RX6) (T := TX6) (N := 48) hx hb hts inX6 hown hK.1 hP 0 mW_0 rfl 16 (by decide) (hts _ w_862) (fun _ h9 => h9) mF_16 dX6_read_107 ?_
      refine jn_v (v := (if (R.1 16) = 0 then 1 else 0 : Int32)) (pcM := 118) (rest := []) (fun kM => ?_) ?_
      ·
        refine lv_if_ne (tgt := 117) hx hb dX6_read_110 (by decide) (fun h5 => ?_) (fun h5 => ?_)
        ·
          refine lv_iconst (v := 0) hx hb dX6_read_117 (by decide) ?_
          exact kM _ (by try rw [if_neg h5])
        ·
          refine lv_iconst (v := 1) hx hb dX6_read_113 (by decide) ?_
          refine lv_goto (tgt := 118) hx hb dX6_read_114 (by decide) ?_
          exact kM _ (by try rw [if_pos h5])
      obtain ⟨hn, rfl, rfl⟩ := hE
      exact en_i F hS _ () hn rfl hP hD (Nat.le_refl _) (Nat.le_refl _) dX6_read_118
    ·
      rw [if_neg h3] at hE
      refine lv_aload_n hx hb dX6_read_39 rfl (lv_at hl 0 rfl) ?_
      refine lv_iconst (v := 0) hx hb dX6_read_40 (by decide) ?_
      obtain ⟨R6, r7, hg, hE⟩ := hE
      refine kA_i (va_runV (As := [.int 0]) (rest := []) F.1 (e_peek l G h q R 0 R6 r7 hg _) (cwV 1 hts (aw_V w_1031 w_1033 ws_X6_peek w_6 w_1034) rfl rfl rfl (by decide +kernel) ⟨by decide, by decide⟩) ⟨cS_blind, va_recv (q := (RX6, TX6, 48)) (ci := 6) (q0 := 0) hK.1 hP rfl mW_0, cS_pre hP hD hK⟩ rfl rfl hl.1 rfl (lv_room (Nat.le_of_ble_eq_true rfl)) dX6_read_41 ⟨Nat.le_refl _, Nat.le_refl _⟩) hD hS hA (fun r9 u0 H locs hp hP hD hS => ?_)
      have hp := hp.symm; subst hp
      refine lv_istore_n hx hb dX6_read_44 rfl hl (by decide) rfl (fun ls hl => ?_)
      have hl : lv_has ls 3 [(1, .int r7), (0, .ref h)] := hl
      refine lv_iload_n hx hb dX6_read_45 rfl (lv_at hl 0 rfl) ?_
      refine lv_bipush (v := 124) hx hb dX6_read_46 (by decide) ?_
      refine lv_icmp_ne (tgt := 59) hx hb dX6_read_48 (by decide) (fun h8 => ?_) (fun h8 => ?_)
      ·
        rw [if_neg h8] at hE
        refine lv_iload_n hx hb dX6_read_59 rfl (lv_at hl 0 rfl) ?_
        refine lv_bipush (v := 40) hx hb dX6_read_60 (by decide) ?_
        refine lv_icmp_ne (tgt := 73) hx hb dX6_read_62 (by decide) (fun h9 => ?_) (fun h9 => ?_)
        ·
          rw [if_neg h9] at hE
          refine lv_iload_n hx hb dX6_read_73 rfl (lv_at hl 0 rfl) ?_
          refine lv_bipush (v := 41) hx hb dX6_read_74 (by decide) ?_
          refine lv_icmp_ne (tgt := 87) hx hb dX6_read_76 (by decide) (fun h10 => ?_) (fun h10 => ?_)
          ·
            rw [if_neg h10] at hE
            refine lv_aload_n hx hb dX6_read_87 rfl (lv_at hl 1 rfl) ?_
            refine lv_aload_n hx hb dX6_read_88 rfl (lv_at hl 1 rfl) ?_
            refine lv_iload_n hx hb dX6_read_89 rfl (lv_at hl 0 rfl) ?_
            obtain ⟨R11, r12, hg, hE⟩ := hE
            refine kA_i (va_runV (As := [.int r7]) (rest := [.ref h]) F.1 (e_atom l G h q R6 r7 R11 r12 hg _) (cwV 1 hts (aw_V w_1062 w_1064 ws_X6_atom w_6 w_1065) rfl rfl rfl (by decide +kernel) ⟨by decide, by decide⟩) ⟨cS_blind, va_recv (q := (RX6, TX6, 48)) (ci := 6) (q0 := 0) hK.1 hP rfl mW_0, cS_pre hP hD hK⟩ rfl rfl hl.1 rfl (lv_room (Nat.le_of_ble_eq_true rfl)) dX6_read_90 ⟨Nat.le_refl _, Nat.le_refl _⟩) hD hS hA (fun r9 u0 H locs hp hP hD hS => ?_)
            have hp := hp.symm; subst hp
            obtain ⟨R13, r14, hg, hE⟩ := hE
            refine kA_i (va_runV (As := [.int r12]) (rest := []) F.1 (e_loop l G h q R11 r12 R13 r14 hg _) (cwV 1 hts (aw_V w_1047 w_1049 ws_X6_loop w_6 w_1050) rfl rfl rfl (by decide +kernel) ⟨by decide, by decide⟩) ⟨cS_blind, va_recv (q := (RX6, TX6, 48)) (ci := 6) (q0 := 0) hK.1 hP rfl mW_0, cS_pre hP hD hK⟩ rfl rfl hl.1 rfl (lv_room (Nat.le_of_ble_eq_true rfl)) dX6_read_93 ⟨Nat.le_refl _, Nat.le_refl _⟩) hD hS hA (fun r9 u0 H locs hp hP hD hS => ?_)
            have hp := hp.symm; subst hp
            refine lv_istore_n hx hb dX6_read_96 rfl hl (by decide) rfl (fun ls hl => ?_)
            have hl : lv_has ls 3 [(2, .int r14), (1, .int r7), (0, .ref h)] := hl
            refine lv_iload_n hx hb dX6_read_97 rfl (lv_at hl 0 rfl) ?_
            refine lv_if_ne (tgt := 103) hx hb dX6_read_98 (by decide) (fun h15 => ?_) (fun h15 => ?_)
            ·
              rw [if_neg h15] at hE
              refine lv_goto (tgt := 26) hx hb dX6_read_103 (by decide) ?_
              exact ih R13 _ _ ls (lv_sub hl [2] rfl) hE hP hD hS
            ·
              rw [if_pos h15] at hE
              refine lv_iconst (v := 0) hx hb dX6_read_101 (by decide) ?_
              obtain ⟨rfl, rfl⟩ := hE
              exact en_i F hS _ () (by rfl) rfl hP hD (Nat.le_refl _) (Nat.le_refl _) dX6_read_102
          ·
            rw [if_pos h10] at hE
            refine lv_aload_n hx hb dX6_read_79 rfl (lv_at hl 1 rfl) ?_
            obtain ⟨R16, r17, hg, hE⟩ := hE
            refine kA_i (va_runV (As := []) (rest := []) F.1 (e_close l G h q R6 R16 r17 hg _) (cwV 0 hts (aw_V w_1043 w_1045 ws_X6_close w_6 w_1046) rfl rfl rfl (by decide +kernel) ⟨by decide, by decide⟩) ⟨cS_blind, va_recv (q := (RX6, TX6, 48)) (ci := 6) (q0 := 0) hK.1 hP rfl mW_0, cS_pre hP hD hK⟩ rfl rfl hl.1 rfl (lv_room (Nat.le_of_ble_eq_true rfl)) dX6_read_80 ⟨Nat.le_refl _, Nat.le_refl _⟩) hD hS hA (fun r9 u0 H locs hp hP hD hS => ?_)
            have hp := hp.symm; subst hp
            refine lv_istore_n hx hb dX6_read_83 rfl hl (by decide) rfl (fun ls hl => ?_)
            have hl : lv_has ls 3 [(2, .int r17), (1, .int r7), (0, .ref h)] := hl
            refine lv_goto (tgt := 97) hx hb dX6_read_84 (by decide) ?_
            refine lv_iload_n hx hb dX6_read_97 rfl (lv_at hl 0 rfl) ?_
            refine lv_if_ne (tgt := 103) hx hb dX6_read_98 (by decide) (fun h18 => ?_) (fun h18 => ?_)
            ·
              rw [if_neg h18] at hE
              refine lv_goto (tgt := 26) hx hb dX6_read_103 (by decide) ?_
              exact ih R16 _ _ ls (lv_sub hl [2] rfl) hE hP hD hS
            ·
              rw [if_pos h18] at hE
              refine lv_iconst (v := 0) hx hb dX6_read_101 (by decide) ?_
              obtain ⟨rfl, rfl⟩ := hE
              exact en_i F hS _ () (by rfl) rfl hP hD (Nat.le_refl _) (Nat.le_refl _) dX6_read_102
        ·
          rw [if_pos h9] at hE
          refine lv_aload_n hx hb dX6_read_65 rfl (lv_at hl 1 rfl) ?_
          obtain ⟨R19, r20, hg, hE⟩ := hE
          refine kA_i (va_runV (As := []) (rest := []) F.1 (e_bracket l G h q R6 R19 r20 hg _) (cwV 0 hts (aw_V w_1039 w_1041 ws_X6_bracket w_6 w_1042) rfl rfl rfl (by decide +kernel) ⟨by decide, by decide⟩) ⟨cS_blind, va_recv (q := (RX6, TX6, 48)) (ci := 6) (q0 := 0) hK.1 hP rfl mW_0, cS_pre hP hD hK⟩ rfl rfl hl.1 rfl (lv_room (Nat.le_of_ble_eq_true rfl)) dX6_read_66 ⟨Nat.le_refl _, Nat.le_refl _⟩) hD hS hA (fun r9 u0 H locs hp hP hD hS => ?_)
          have hp := hp.symm; subst hp
          refine lv_istore_n hx hb dX6_read_69 rfl hl (by decide) rfl (fun ls hl => ?_)
          have hl : lv_has ls 3 [(2, .int r20), (1, .int r7), (0, .ref h)] := hl
          refine lv_goto (tgt := 97) hx hb dX6_read_70 (by decide) ?_
          refine lv_iload_n hx hb dX6_read_97 rfl (lv_at hl 0 rfl) ?_
          refine lv_if_ne (tgt := 103) hx hb dX6_read_98 (by decide) (fun h21 => ?_) (fun h21 => ?_)
          ·
            rw [if_neg h21] at hE
            refine lv_goto (tgt := 26) hx hb dX6_read_103 (by decide) ?_
            exact ih R19 _ _ ls (lv_sub hl [2] rfl) hE hP hD hS
          ·
            rw [if_pos h21] at hE
            refine lv_iconst (v := 0) hx hb dX6_read_101 (by decide) ?_
            obtain ⟨rfl, rfl⟩ := hE
            exact en_i F hS _ () (by rfl) rfl hP hD (Nat.le_refl _) (Nat.le_refl _) dX6_read_102
      ·
        rw [if_pos h8] at hE
        refine lv_aload_n hx hb dX6_read_51 rfl (lv_at hl 1 rfl) ?_
        obtain ⟨R22, r23, hg, hE⟩ := hE
        refine kA_i (va_runV (As := []) (rest := []) F.1 (e_bar l G h q R6 R22 r23 hg _) (cwV 0 hts (aw_V w_1035 w_1037 ws_X6_bar w_6 w_1038) rfl rfl rfl (by decide +kernel) ⟨by decide, by decide⟩) ⟨cS_blind, va_recv (q := (RX6, TX6, 48)) (ci := 6) (q0 := 0) hK.1 hP rfl mW_0, cS_pre hP hD hK⟩ rfl rfl hl.1 rfl (lv_room (Nat.le_of_ble_eq_true rfl)) dX6_read_52 ⟨Nat.le_refl _, Nat.le_refl _⟩) hD hS hA (fun r9 u0 H locs hp hP hD hS => ?_)
        have hp := hp.symm; subst hp
        refine lv_istore_n hx hb dX6_read_55 rfl hl (by decide) rfl (fun ls hl => ?_)
        have hl : lv_has ls 3 [(2, .int r23), (1, .int r7), (0, .ref h)] := hl
        refine lv_goto (tgt := 97) hx hb dX6_read_56 (by decide) ?_
        refine lv_iload_n hx hb dX6_read_97 rfl (lv_at hl 0 rfl) ?_
        refine lv_if_ne (tgt := 103) hx hb dX6_read_98 (by decide) (fun h24 => ?_) (fun h24 => ?_)
        ·
          rw [if_neg h24] at hE
          refine lv_goto (tgt := 26) hx hb dX6_read_103 (by decide) ?_
          exact ih R22 _ _ ls (lv_sub hl [2] rfl) hE hP hD hS
        ·
          rw [if_pos h24] at hE
          refine lv_iconst (v := 0) hx hb dX6_read_101 (by decide) ?_
          obtain ⟨rfl, rfl⟩ := hE
          exact en_i F hS _ () (by rfl) rfl hP hD (Nat.le_refl _) (Nat.le_refl _) dX6_read_102
def E_read (R : RS)  (R' : RS) (r : Int32) : Prop := ∃ R1 : RS, E_newChoice (mf (mf (mf (mf R 4 0) 6 0) 16 0) 17 0) (-1) 0 R1 0 ∧ (∃ nf : Nat, L_read_26 nf R1 R' r)
set_option maxHeartbeats 4000000 in
set_option maxRecDepth 100000 in
theorem e_read (l : Launch) (G : PG) (h : Nat) (q : Nat → Nat) (R : RS)  (R' : RS) (r : Int32) (hE : E_read R R' r) : Ci l yX6_read (Cond.code yX6_read cX6_read 3 (some .boolean) :: aW) { frames := 5, cells := 0, slots := 0, locals := 114 } G (mW G h q R) [.ref h] (fun (r9 : Int32) (_ : Unit) => r9 = r) (fun (_ : Unit) => mW G h q R') 0 0 := by
  refine ofB (y := yX6_read) (G := G) (cc := cX6_read) (maxL := 3) (ret := (some .boolean)) (Qc := fun A => va_Qi (fun (r9 : Int32) (_ : Unit) => r9 = r) (oB G A (fun (_ : Unit) => mW G h q R')) A) (by decide) rfl ?_
  intro p e s m below meth c A F hK hA hP hD
  have hS : va_S A s.heap s.heap [] := va_S.rf
  have hx := F.1.1; have hb := F.1.2.1; have hml := F.1.2.2.1; have hts := F.1.2.2.2.2
  have hown : s.vm.findClass RX6 = some m.cls := F.1.2.2.2.1
  have hl := lv_entry ([.ref h]) (n := 3) (Nat.le_of_ble_eq_true rfl)
  rw [lg_entry_eq]
  generalize (lg_sl ([.ref h]) ++ List.replicate (3 - (lg_sl ([.ref h])).length) Slot.unset).toArray = ls at hl ⊢
  have hl : lv_has ls 3 [(0, .ref h)] := hl
  unfold E_read at hE
  refine lv_aload_n hx hb dX6_read_0 rfl (lv_at hl 0 rfl) ?_
  refine lv_iconst (v := 0) hx hb dX6_read_1 (by decide) ?_
  refine va_put (D := G.1) (ci := 6) (v := .int 0) (ty := .int) (C := RX6) (T := TX6) (N := 48) hx hb hts inX6 tyX6 tyX6_ok nmX6 hown hK.1 hP hD hS 0 mW_0 rfl 4 (by decide) (hts _ w_850) (fun _ h9 => h9) rfl (by decide +kernel) rfl rfl mF_l4 dX6_read_2 (fun H locs hP hD hS => ?_)
  rw [mW_f4] at hP hD
  refine lv_aload_n hx hb dX6_read_5 rfl (lv_at hl 0 rfl) ?_
  refine lv_iconst (v := 0) hx hb dX6_read_6 (by decide) ?_
  refine va_put (D := G.1) (ci := 6) (v := .int 0) (ty := .int) (C := RX6) (T := TX6) (N := 48) hx hb hts inX6 tyX6 tyX6_ok nmX6 hown hK.1 hP hD hS 0 mW_0 rfl 6 (by decide) (hts _ w_852) (fun _ h9 => h9) rfl (by decide +kernel) rfl rfl mF_l6 dX6_read_7 (fun H locs hP hD hS => ?_)
  rw [mW_f6] at hP hD
  refine lv_aload_n hx hb dX6_read_10 rfl (lv_at hl 0 rfl) ?_
  refine lv_iconst (v := 0) hx hb dX6_read_11 (by decide) ?_
  refine va_put (D := G.1) (ci := 6) (v := .int 0) (ty := .int) (C := RX6) (T := TX6) (N := 48) hx hb hts inX6 tyX6 tyX6_ok nmX6 hown hK.1 hP hD hS 0 mW_0 rfl 16 (by decide) (hts _ w_862) (fun _ h9 => h9) rfl (by decide +kernel) rfl rfl mF_l16 dX6_read_12 (fun H locs hP hD hS => ?_)
  rw [mW_f16] at hP hD
  refine lv_aload_n hx hb dX6_read_15 rfl (lv_at hl 0 rfl) ?_
  refine lv_iconst (v := 0) hx hb dX6_read_16 (by decide) ?_
  refine va_put (D := G.1) (ci := 6) (v := .int 0) (ty := .int) (C := RX6) (T := TX6) (N := 48) hx hb hts inX6 tyX6 tyX6_ok nmX6 hown hK.1 hP hD hS 0 mW_0 rfl 17 (by decide) (hts _ w_863) (fun _ h9 => h9) rfl (by decide +kernel) rfl rfl mF_l17 dX6_read_17 (fun H locs hP hD hS => ?_)
  rw [mW_f17] at hP hD
  refine lv_aload_n hx hb dX6_read_20 rfl (lv_at hl 0 rfl) ?_
  refine lv_iconst (v := (-1)) hx hb dX6_read_21 (by decide) ?_
  refine lv_iconst (v := 0) hx hb dX6_read_22 (by decide) ?_
  obtain ⟨R1, hg, hE⟩ := hE
  refine kA_v (va_runV (As := [.int (-1), .int 0]) (rest := []) F.1 (e_newChoice l G h q (mf (mf (mf (mf R 4 0) 6 0) 16 0) 17 0) (-1) 0 R1 0 hg _) (cwV 2 hts (aw_V w_1019 w_1021 ws_X6_newChoice w_6 w_1022) rfl rfl rfl (by decide +kernel) ⟨by decide, by decide⟩) ⟨cS_blind, va_recv (q := (RX6, TX6, 48)) (ci := 6) (q0 := 0) hK.1 hP rfl mW_0, cS_pre hP hD hK⟩ rfl rfl hl.1 rfl (lv_room (Nat.le_of_ble_eq_true rfl)) dX6_read_23 ⟨Nat.le_refl _, Nat.le_refl _⟩) hD hS hA (fun u0 H locs hp hP hD hS => ?_)
  obtain ⟨nf, hE⟩ := hE
  exact L_read_26_ok F hK hA nf R1 _ _ ls (lv_sub hl [0] rfl) hE hP hD hS

theorem dX6_compile_12 : decode cX6_compile 12 = .ok (.aload_n 0, 1) := by decide +kernel
theorem dX6_compile_13 : decode cX6_compile 13 = .ok (.iconst 1, 1) := by decide +kernel
theorem dX6_compile_14 : decode cX6_compile 14 = .ok (.invokevirtual 199, 3) := by decide +kernel
theorem dX6_compile_17 : decode cX6_compile 17 = .ok (.ireturn, 1) := by decide +kernel
def E_compile (R : RS)  (R' : RS) (r : Int32) : Prop := ∃ (R1 : RS) (r2 : Int32), E_read (mf R 0 0) R1 r2 ∧ (if r2 = 0 then (∃ (R4 : RS) (r5 : Int32), E_fail R1 1 R4 r5 ∧ (R' = R4 ∧ r = r5)) else (R' = (mf (mf (mf (mf R1 3 (48 - (R1.1 3))) 5 (R1.1 6)) 7 1) 41 0) ∧ r = (R1.1 6)))
set_option maxHeartbeats 4000000 in
set_option maxRecDepth 100000 in
theorem e_compile (l : Launch) (G : PG) (h : Nat) (q : Nat → Nat) (R : RS)  (R' : RS) (r : Int32) (hE : E_compile R R' r) : Ci l yX6_compile (Cond.code yX6_compile cX6_compile 1 (some .int) :: aW) { frames := 6, cells := 0, slots := 0, locals := 136 } G (mW G h q R) [.ref h] (fun (r9 : Int32) (_ : Unit) => r9 = r) (fun (_ : Unit) => mW G h q R') 0 0 := by
  refine ofB (y := yX6_compile) (G := G) (cc := cX6_compile) (maxL := 1) (ret := (some .int)) (Qc := fun A => va_Qi (fun (r9 : Int32) (_ : Unit) => r9 = r) (oB G A (fun (_ : Unit) => mW G h q R')) A) (by decide) rfl ?_
  intro p e s m below meth c A F hK hA hP hD
  have hS : va_S A s.heap s.heap [] := va_S.rf
  have hx := F.1.1; have hb := F.1.2.1; have hml := F.1.2.2.1; have hts := F.1.2.2.2.2
  have hown : s.vm.findClass RX6 = some m.cls := F.1.2.2.2.1
  have hl := lv_entry ([.ref h]) (n := 1) (Nat.le_of_ble_eq_true rfl)
  rw [lg_entry_eq]
  generalize (lg_sl ([.ref h]) ++ List.replicate (1 - (lg_sl ([.ref h])).length) Slot.unset).toArray = ls at hl ⊢
  have hl : lv_has ls 1 [(0, .ref h)] := hl
  unfold E_compile at hE
  refine lv_aload_n hx hb dX6_compile_0 rfl (lv_at hl 0 rfl) ?_
  refine lv_iconst (v := 0) hx hb dX6_compile_1 (by decide) ?_
  refine va_put (D := G.1) (ci := 6) (v := .int 0) (ty := .int) (C := RX6) (T := TX6) (N := 48) hx hb hts inX6 tyX6 tyX6_ok nmX6 hown hK.1 hP hD hS 0 mW_0 rfl 0 (by decide) (hts _ w_846) (fun _ h9 => h9) rfl (by decide +kernel) rfl rfl mF_l0 dX6_compile_2 (fun H locs hP hD hS => ?_)
  rw [mW_f0] at hP hD
  refine lv_aload_n hx hb dX6_compile_5 rfl (lv_at hl 0 rfl) ?_
  obtain ⟨R1, r2, hg, hE⟩ := hE
  refine kA_i (va_runV (As := []) (rest := []) F.1 (e_read l G h q (mf R 0 0) R1 r2 hg _) (cwV 0 hts (aw_V w_1015 w_1017 ws_X6_read w_6 w_1018) rfl rfl rfl (by decide +kernel) ⟨by decide, by decide⟩) ⟨cS_blind, va_recv (q := (RX6, TX6, 48)) (ci := 6) (q0 := 0) hK.1 hP rfl mW_0, cS_pre hP hD hK⟩ rfl rfl hl.1 rfl (lv_room (Nat.le_of_ble_eq_true rfl)) dX6_compile_6 ⟨Nat.le_refl _, Nat.le_refl _⟩) hD hS hA (fun r9 u0 H locs hp hP hD hS => ?_)
  have hp := hp.symm; subst hp
  refine lv_if_ne (tgt := 18) hx hb dX6_compile_9 (by decide) (fun h3 => ?_) (fun h3 => ?_)
  ·
    rw [if_neg h3] at hE
    refine lv_aload_n hx hb dX6_compile_18 rfl (lv_at hl 0 rfl) ?_
    refine lv_bipush (v := 48) hx hb dX6_compile_19 (by decide) ?_
    refine lv_aload_n hx hb dX6_compile_21 rfl (lv_at hl 0 rfl) ?_
    refine va_get (D := G.1) (ci := 6) (C := RX6) (T := TX6) (N := 48) hx hb hts inX6 hown hK.1 hP 0 mW_0 rfl 3 (by decide) (hts _ w_849) (fun _ h9 => h9) mF_3 dX6_compile_22 ?_
    refine lv_isub hx hb dX6_compile_25 ?_
    refine va_put (D := G.1) (ci := 6) (v := .int (48 - (R1.1 3))) (ty := .int) (C := RX6) (T := TX6) (N := 48) hx hb hts inX6 tyX6 tyX6_ok nmX6 hown hK.1 hP hD hS 0 mW_0 rfl 3 (by decide) (hts _ w_849) (fun _ h9 => h9) rfl (by decide +kernel) rfl rfl mF_l3 dX6_compile_26 (fun H locs hP hD hS => ?_)
    rw [mW_f3] at hP hD
    refine lv_aload_n hx hb dX6_compile_29 rfl (lv_at hl 0 rfl) ?_
    refine lv_aload_n hx hb dX6_compile_30 rfl (lv_at hl 0 rfl) ?_
    refine va_get (D := G.1) (ci := 6) (C := RX6) (T := TX6) (N := 48) hx hb hts inX6 hown hK.1 hP 0 mW_0 rfl 6 (by decide) (hts _ w_852) (fun _ h9 => h9) mF_6 dX6_compile_31 ?_
    refine tp_i (R1.1 6) rfl ?_
    refine va_put (D := G.1) (ci := 6) (v := .int (R1.1 6)) (ty := .int) (C := RX6) (T := TX6) (N := 48) hx hb hts inX6 tyX6 tyX6_ok nmX6 hown hK.1 hP hD hS 0 mW_0 rfl 5 (by decide) (hts _ w_851) (fun _ h9 => h9) rfl (by decide +kernel) rfl rfl mF_l5 dX6_compile_34 (fun H locs hP hD hS => ?_)
    rw [mW_f5] at hP hD
    refine lv_aload_n hx hb dX6_compile_37 rfl (lv_at hl 0 rfl) ?_
    refine lv_iconst (v := 1) hx hb dX6_compile_38 (by decide) ?_
    refine va_put (D := G.1) (ci := 6) (v := .int 1) (ty := .boolean) (C := RX6) (T := TX6) (N := 48) hx hb hts inX6 tyX6 tyX6_ok nmX6 hown hK.1 hP hD hS 0 mW_0 rfl 7 (by decide) (hts _ w_853) (fun _ h9 => h9) rfl (by decide +kernel) rfl rfl mF_l7 dX6_compile_39 (fun H locs hP hD hS => ?_)
    rw [mW_f7] at hP hD
    refine lv_aload_n hx hb dX6_compile_42 rfl (lv_at hl 0 rfl) ?_
    refine lv_iconst (v := 0) hx hb dX6_compile_43 (by decide) ?_
    refine va_put (D := G.1) (ci := 6) (v := .int 0) (ty := .boolean) (C := RX6) (T := TX6) (N := 48) hx hb hts inX6 tyX6 tyX6_ok nmX6 hown hK.1 hP hD hS 0 mW_0 rfl 41 (by decide) (hts _ w_887) (fun _ h9 => h9) rfl (by decide +kernel) rfl rfl mF_l41 dX6_compile_44 (fun H locs hP hD hS => ?_)
    rw [mW_f41] at hP hD
    refine lv_aload_n hx hb dX6_compile_47 rfl (lv_at hl 0 rfl) ?_
    refine va_get (D := G.1) (ci := 6) (C := RX6) (T := TX6) (N := 48) hx hb hts inX6 hown hK.1 hP 0 mW_0 rfl 5 (by decide) (hts _ w_851) (fun _ h9 => h9) mF_5 dX6_compile_48 ?_
    refine tp_i (R1.1 6) rfl ?_
    obtain ⟨rfl, rfl⟩ := hE
    exact en_i F hS _ () (by rfl) rfl hP hD (Nat.le_refl _) (Nat.le_refl _) dX6_compile_51
  ·
    rw [if_pos h3] at hE
    refine lv_aload_n hx hb dX6_compile_12 rfl (lv_at hl 0 rfl) ?_
    refine lv_iconst (v := 1) hx hb dX6_compile_13 (by decide) ?_
    obtain ⟨R4, r5, hg, hE⟩ := hE
    refine kA_i (va_runV (As := [.int 1]) (rest := []) F.1 (e_fail l G h q R1 1 R4 r5 hg _) (cwV 1 hts (aw_V w_1096 w_1098 ws_X6_fail w_6 w_1099) rfl rfl rfl (by decide +kernel) ⟨by decide, by decide⟩) ⟨cS_blind, va_recv (q := (RX6, TX6, 48)) (ci := 6) (q0 := 0) hK.1 hP rfl mW_0, cS_pre hP hD hK⟩ rfl rfl hl.1 rfl (lv_room (Nat.le_of_ble_eq_true rfl)) dX6_compile_14 ⟨Nat.le_refl _, Nat.le_refl _⟩) hD hS hA (fun r9 u0 H locs hp hP hD hS => ?_)
    have hp := hp.symm; subst hp
    obtain ⟨rfl, rfl⟩ := hE
    exact en_i F hS _ () (by rfl) rfl hP hD (Nat.le_refl _) (Nat.le_refl _) dX6_compile_17
