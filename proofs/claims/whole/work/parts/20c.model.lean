theorem dM_best_0 : decode (xb yyM_best) 0 = .ok (.iload_n 1, 1) := by decide +kernel
theorem dM_best_1 : decode (xb yyM_best) 1 = .ok (.invokestatic 206, 3) := by decide +kernel
theorem dM_best_4 : decode (xb yyM_best) 4 = .ok (.ifCond .eq 16, 3) := by decide +kernel
theorem dM_best_7 : decode (xb yyM_best) 7 = .ok (.iload_n 2, 1) := by decide +kernel
theorem dM_best_8 : decode (xb yyM_best) 8 = .ok (.iconst (-1), 1) := by decide +kernel
theorem dM_best_9 : decode (xb yyM_best) 9 = .ok (.if_icmp .eq 18, 3) := by decide +kernel
theorem dM_best_12 : decode (xb yyM_best) 12 = .ok (.aload_n 0, 1) := by decide +kernel
theorem dM_best_13 : decode (xb yyM_best) 13 = .ok (.iload_n 2, 1) := by decide +kernel
theorem dM_best_14 : decode (xb yyM_best) 14 = .ok (.invokevirtual 84, 3) := by decide +kernel
theorem dM_best_17 : decode (xb yyM_best) 17 = .ok (.ifCond .ne 10, 3) := by decide +kernel
theorem dM_best_20 : decode (xb yyM_best) 20 = .ok (.aload_n 0, 1) := by decide +kernel
theorem dM_best_21 : decode (xb yyM_best) 21 = .ok (.bipush (-10), 2) := by decide +kernel
theorem dM_best_23 : decode (xb yyM_best) 23 = .ok (.invokevirtual 66, 3) := by decide +kernel
theorem dM_best_26 : decode (xb yyM_best) 26 = .ok (.ireturn, 1) := by decide +kernel
theorem dM_best_27 : decode (xb yyM_best) 27 = .ok (.aload_n 0, 1) := by decide +kernel
theorem dM_best_28 : decode (xb yyM_best) 28 = .ok (.getfield 7, 3) := by decide +kernel
theorem dM_best_31 : decode (xb yyM_best) 31 = .ok (.iconst 1, 1) := by decide +kernel
theorem dM_best_32 : decode (xb yyM_best) 32 = .ok (.iaload, 1) := by decide +kernel
theorem dM_best_33 : decode (xb yyM_best) 33 = .ok (.ifCond .ne 5, 3) := by decide +kernel
theorem dM_best_36 : decode (xb yyM_best) 36 = .ok (.iconst (-1), 1) := by decide +kernel
theorem dM_best_37 : decode (xb yyM_best) 37 = .ok (.ireturn, 1) := by decide +kernel
theorem dM_best_38 : decode (xb yyM_best) 38 = .ok (.aload_n 0, 1) := by decide +kernel
theorem dM_best_39 : decode (xb yyM_best) 39 = .ok (.invokevirtual 217, 3) := by decide +kernel
theorem dM_best_42 : decode (xb yyM_best) 42 = .ok (.istore_n 3, 1) := by decide +kernel
theorem dM_best_43 : decode (xb yyM_best) 43 = .ok (.iconst 1, 1) := by decide +kernel
theorem dM_best_44 : decode (xb yyM_best) 44 = .ok (.istore 4, 2) := by decide +kernel
theorem dM_best_46 : decode (xb yyM_best) 46 = .ok (.iconst 0, 1) := by decide +kernel
theorem dM_best_47 : decode (xb yyM_best) 47 = .ok (.istore 5, 2) := by decide +kernel
theorem dM_best_49 : decode (xb yyM_best) 49 = .ok (.iload 5, 2) := by decide +kernel
theorem dM_best_51 : decode (xb yyM_best) 51 = .ok (.iload_n 3, 1) := by decide +kernel
theorem dM_best_52 : decode (xb yyM_best) 52 = .ok (.invokestatic 189, 3) := by decide +kernel
theorem dM_best_55 : decode (xb yyM_best) 55 = .ok (.if_icmp .ge 22, 3) := by decide +kernel
theorem dM_best_58 : decode (xb yyM_best) 58 = .ok (.iload 4, 2) := by decide +kernel
theorem dM_best_60 : decode (xb yyM_best) 60 = .ok (.aload_n 0, 1) := by decide +kernel
theorem dM_best_61 : decode (xb yyM_best) 61 = .ok (.getfield 7, 3) := by decide +kernel
theorem dM_best_64 : decode (xb yyM_best) 64 = .ok (.iconst 1, 1) := by decide +kernel
theorem dM_best_65 : decode (xb yyM_best) 65 = .ok (.iaload, 1) := by decide +kernel
theorem dM_best_66 : decode (xb yyM_best) 66 = .ok (.iconst 1, 1) := by decide +kernel
theorem dM_best_67 : decode (xb yyM_best) 67 = .ok (.iadd, 1) := by decide +kernel
theorem dM_best_68 : decode (xb yyM_best) 68 = .ok (.imul, 1) := by decide +kernel
theorem dM_best_69 : decode (xb yyM_best) 69 = .ok (.istore 4, 2) := by decide +kernel
theorem dM_best_71 : decode (xb yyM_best) 71 = .ok (.iinc 5 1, 3) := by decide +kernel
theorem dM_best_74 : decode (xb yyM_best) 74 = .ok (.goto (-25), 3) := by decide +kernel
theorem dM_best_77 : decode (xb yyM_best) 77 = .ok (.iconst (-1), 1) := by decide +kernel
theorem dM_best_78 : decode (xb yyM_best) 78 = .ok (.istore 5, 2) := by decide +kernel
theorem dM_best_80 : decode (xb yyM_best) 80 = .ok (.iconst 0, 1) := by decide +kernel
theorem dM_best_81 : decode (xb yyM_best) 81 = .ok (.istore 6, 2) := by decide +kernel
theorem dM_best_83 : decode (xb yyM_best) 83 = .ok (.iload 6, 2) := by decide +kernel
theorem dM_best_85 : decode (xb yyM_best) 85 = .ok (.iload 4, 2) := by decide +kernel
theorem dM_best_87 : decode (xb yyM_best) 87 = .ok (.if_icmp .ge 151, 3) := by decide +kernel
theorem dM_best_90 : decode (xb yyM_best) 90 = .ok (.iload 6, 2) := by decide +kernel
theorem dM_best_92 : decode (xb yyM_best) 92 = .ok (.istore 7, 2) := by decide +kernel
theorem dM_best_94 : decode (xb yyM_best) 94 = .ok (.aload_n 0, 1) := by decide +kernel
theorem dM_best_95 : decode (xb yyM_best) 95 = .ok (.invokevirtual 212, 3) := by decide +kernel
theorem dM_best_98 : decode (xb yyM_best) 98 = .ok (.aload_n 0, 1) := by decide +kernel
theorem dM_best_99 : decode (xb yyM_best) 99 = .ok (.getfield 7, 3) := by decide +kernel
theorem dM_best_102 : decode (xb yyM_best) 102 = .ok (.iconst 0, 1) := by decide +kernel
theorem dM_best_103 : decode (xb yyM_best) 103 = .ok (.iaload, 1) := by decide +kernel
theorem dM_best_104 : decode (xb yyM_best) 104 = .ok (.iconst 1, 1) := by decide +kernel
theorem dM_best_105 : decode (xb yyM_best) 105 = .ok (.isub, 1) := by decide +kernel
theorem dM_best_106 : decode (xb yyM_best) 106 = .ok (.istore 8, 2) := by decide +kernel
theorem dM_best_108 : decode (xb yyM_best) 108 = .ok (.iload 8, 2) := by decide +kernel
theorem dM_best_110 : decode (xb yyM_best) 110 = .ok (.ifCond .lt 55, 3) := by decide +kernel
theorem dM_best_113 : decode (xb yyM_best) 113 = .ok (.iload_n 3, 1) := by decide +kernel
theorem dM_best_114 : decode (xb yyM_best) 114 = .ok (.iload 8, 2) := by decide +kernel
theorem dM_best_116 : decode (xb yyM_best) 116 = .ok (.invokestatic 220, 3) := by decide +kernel
theorem dM_best_119 : decode (xb yyM_best) 119 = .ok (.ifCond .eq 40, 3) := by decide +kernel
theorem dM_best_122 : decode (xb yyM_best) 122 = .ok (.aload_n 0, 1) := by decide +kernel
theorem dM_best_123 : decode (xb yyM_best) 123 = .ok (.getfield 7, 3) := by decide +kernel
theorem dM_best_126 : decode (xb yyM_best) 126 = .ok (.sipush 1742, 3) := by decide +kernel
theorem dM_best_129 : decode (xb yyM_best) 129 = .ok (.iload 8, 2) := by decide +kernel
theorem dM_best_131 : decode (xb yyM_best) 131 = .ok (.iadd, 1) := by decide +kernel
theorem dM_best_132 : decode (xb yyM_best) 132 = .ok (.iload 7, 2) := by decide +kernel
theorem dM_best_134 : decode (xb yyM_best) 134 = .ok (.aload_n 0, 1) := by decide +kernel
theorem dM_best_135 : decode (xb yyM_best) 135 = .ok (.getfield 7, 3) := by decide +kernel
theorem dM_best_138 : decode (xb yyM_best) 138 = .ok (.iconst 1, 1) := by decide +kernel
theorem dM_best_139 : decode (xb yyM_best) 139 = .ok (.iaload, 1) := by decide +kernel
theorem dM_best_140 : decode (xb yyM_best) 140 = .ok (.iconst 1, 1) := by decide +kernel
theorem dM_best_141 : decode (xb yyM_best) 141 = .ok (.iadd, 1) := by decide +kernel
theorem dM_best_142 : decode (xb yyM_best) 142 = .ok (.irem, 1) := by decide +kernel
theorem dM_best_143 : decode (xb yyM_best) 143 = .ok (.iconst 1, 1) := by decide +kernel
theorem dM_best_144 : decode (xb yyM_best) 144 = .ok (.isub, 1) := by decide +kernel
theorem dM_best_145 : decode (xb yyM_best) 145 = .ok (.iastore, 1) := by decide +kernel
theorem dM_best_146 : decode (xb yyM_best) 146 = .ok (.iload 7, 2) := by decide +kernel
theorem dM_best_148 : decode (xb yyM_best) 148 = .ok (.aload_n 0, 1) := by decide +kernel
theorem dM_best_149 : decode (xb yyM_best) 149 = .ok (.getfield 7, 3) := by decide +kernel
theorem dM_best_152 : decode (xb yyM_best) 152 = .ok (.iconst 1, 1) := by decide +kernel
theorem dM_best_153 : decode (xb yyM_best) 153 = .ok (.iaload, 1) := by decide +kernel
theorem dM_best_154 : decode (xb yyM_best) 154 = .ok (.iconst 1, 1) := by decide +kernel
theorem dM_best_155 : decode (xb yyM_best) 155 = .ok (.iadd, 1) := by decide +kernel
theorem dM_best_156 : decode (xb yyM_best) 156 = .ok (.idiv, 1) := by decide +kernel
theorem dM_best_157 : decode (xb yyM_best) 157 = .ok (.istore 7, 2) := by decide +kernel
theorem dM_best_159 : decode (xb yyM_best) 159 = .ok (.iinc 8 (-1), 3) := by decide +kernel
theorem dM_best_162 : decode (xb yyM_best) 162 = .ok (.goto (-54), 3) := by decide +kernel
theorem dM_best_165 : decode (xb yyM_best) 165 = .ok (.aload_n 0, 1) := by decide +kernel
theorem dM_best_166 : decode (xb yyM_best) 166 = .ok (.invokevirtual 224, 3) := by decide +kernel
theorem dM_best_169 : decode (xb yyM_best) 169 = .ok (.ifCond .eq 11, 3) := by decide +kernel
theorem dM_best_172 : decode (xb yyM_best) 172 = .ok (.aload_n 0, 1) := by decide +kernel
theorem dM_best_173 : decode (xb yyM_best) 173 = .ok (.iload_n 1, 1) := by decide +kernel
theorem dM_best_174 : decode (xb yyM_best) 174 = .ok (.invokevirtual 227, 3) := by decide +kernel
theorem dM_best_177 : decode (xb yyM_best) 177 = .ok (.goto 4, 3) := by decide +kernel
theorem dM_best_180 : decode (xb yyM_best) 180 = .ok (.iconst (-1), 1) := by decide +kernel
theorem dM_best_181 : decode (xb yyM_best) 181 = .ok (.istore 8, 2) := by decide +kernel
theorem dM_best_183 : decode (xb yyM_best) 183 = .ok (.iload 8, 2) := by decide +kernel
theorem dM_best_185 : decode (xb yyM_best) 185 = .ok (.iload 5, 2) := by decide +kernel
theorem dM_best_187 : decode (xb yyM_best) 187 = .ok (.if_icmp .le 45, 3) := by decide +kernel
theorem dM_best_190 : decode (xb yyM_best) 190 = .ok (.iload 8, 2) := by decide +kernel
theorem dM_best_192 : decode (xb yyM_best) 192 = .ok (.istore 5, 2) := by decide +kernel
theorem dM_best_194 : decode (xb yyM_best) 194 = .ok (.iconst 0, 1) := by decide +kernel
theorem dM_best_195 : decode (xb yyM_best) 195 = .ok (.istore 9, 2) := by decide +kernel
theorem dM_best_197 : decode (xb yyM_best) 197 = .ok (.iload 9, 2) := by decide +kernel
theorem dM_best_199 : decode (xb yyM_best) 199 = .ok (.aload_n 0, 1) := by decide +kernel
theorem dM_best_200 : decode (xb yyM_best) 200 = .ok (.getfield 7, 3) := by decide +kernel
theorem dM_best_203 : decode (xb yyM_best) 203 = .ok (.iconst 0, 1) := by decide +kernel
theorem dM_best_204 : decode (xb yyM_best) 204 = .ok (.iaload, 1) := by decide +kernel
theorem dM_best_205 : decode (xb yyM_best) 205 = .ok (.if_icmp .ge 27, 3) := by decide +kernel
theorem dM_best_208 : decode (xb yyM_best) 208 = .ok (.aload_n 0, 1) := by decide +kernel
theorem dM_best_209 : decode (xb yyM_best) 209 = .ok (.getfield 30, 3) := by decide +kernel
theorem dM_best_212 : decode (xb yyM_best) 212 = .ok (.iload 9, 2) := by decide +kernel
theorem dM_best_214 : decode (xb yyM_best) 214 = .ok (.aload_n 0, 1) := by decide +kernel
theorem dM_best_215 : decode (xb yyM_best) 215 = .ok (.getfield 7, 3) := by decide +kernel
theorem dM_best_218 : decode (xb yyM_best) 218 = .ok (.sipush 1742, 3) := by decide +kernel
theorem dM_best_221 : decode (xb yyM_best) 221 = .ok (.iload 9, 2) := by decide +kernel
theorem dM_best_223 : decode (xb yyM_best) 223 = .ok (.iadd, 1) := by decide +kernel
theorem dM_best_224 : decode (xb yyM_best) 224 = .ok (.iaload, 1) := by decide +kernel
theorem dM_best_225 : decode (xb yyM_best) 225 = .ok (.iastore, 1) := by decide +kernel
theorem dM_best_226 : decode (xb yyM_best) 226 = .ok (.iinc 9 1, 3) := by decide +kernel
theorem dM_best_229 : decode (xb yyM_best) 229 = .ok (.goto (-32), 3) := by decide +kernel
theorem dM_best_232 : decode (xb yyM_best) 232 = .ok (.iinc 6 1, 3) := by decide +kernel
theorem dM_best_235 : decode (xb yyM_best) 235 = .ok (.goto (-152), 3) := by decide +kernel
theorem dM_best_238 : decode (xb yyM_best) 238 = .ok (.iload_n 2, 1) := by decide +kernel
theorem dM_best_239 : decode (xb yyM_best) 239 = .ok (.iconst (-1), 1) := by decide +kernel
theorem dM_best_240 : decode (xb yyM_best) 240 = .ok (.if_icmp .ne 8, 3) := by decide +kernel
theorem dM_best_243 : decode (xb yyM_best) 243 = .ok (.iload 5, 2) := by decide +kernel
theorem dM_best_245 : decode (xb yyM_best) 245 = .ok (.goto 9, 3) := by decide +kernel
theorem dM_best_248 : decode (xb yyM_best) 248 = .ok (.aload_n 0, 1) := by decide +kernel
theorem dM_best_249 : decode (xb yyM_best) 249 = .ok (.getfield 30, 3) := by decide +kernel
theorem dM_best_252 : decode (xb yyM_best) 252 = .ok (.iload_n 2, 1) := by decide +kernel
theorem dM_best_253 : decode (xb yyM_best) 253 = .ok (.iaload, 1) := by decide +kernel
theorem dM_best_254 : decode (xb yyM_best) 254 = .ok (.ireturn, 1) := by decide +kernel
def fM_best_b232 (k83 : Int32 → Int32 → Int32 → Int32 → Int32 → Int32 → xM → Option (Int32 × xM)) (v1 : Int32) (v2 : Int32) (v3 : Int32) (v4 : Int32) (v5 : Int32) (v6 : Int32) (m : xM) : Option (Int32 × xM) := k83 v1 v2 v3 v4 v5 (v6 + 1) m
def fM_best_l197 (k83 : Int32 → Int32 → Int32 → Int32 → Int32 → Int32 → xM → Option (Int32 × xM)) : Nat → Int32 → Int32 → Int32 → Int32 → Int32 → Int32 → Int32 → xM → Option (Int32 × xM)
  | 0, _, _, _, _, _, _, _, _ => none
  | n + 1, v1, v2, v3, v4, v5, v6, v9, m => xck 1752 (0 : Int32) ((if (m.1 0 (0 : Int32).toNatClampNeg) ≤ v9 then fM_best_b232 k83 v1 v2 v3 v4 v5 v6 m else xck 1752 ((1742 : Int32) + v9) (xck 6 v9 (fM_best_l197 k83 n v1 v2 v3 v4 v5 v6 (v9 + 1) (xset m 4 v9.toNatClampNeg (m.1 0 ((1742 : Int32) + v9).toNatClampNeg))))))
def fM_best_b181 (k83 : Int32 → Int32 → Int32 → Int32 → Int32 → Int32 → xM → Option (Int32 × xM)) (v1 : Int32) (v2 : Int32) (v3 : Int32) (v4 : Int32) (v5 : Int32) (v6 : Int32) (s0 : Int32) (m : xM) : Option (Int32 × xM) := (if s0 ≤ v5 then fM_best_b232 k83 v1 v2 v3 v4 v5 v6 m else fM_best_l197 k83 xfu v1 v2 v3 v4 s0 v6 (0 : Int32) m)
def fM_best_b159 (k83 : Int32 → Int32 → Int32 → Int32 → Int32 → Int32 → xM → Option (Int32 × xM)) (k108 : Int32 → Int32 → Int32 → Int32 → Int32 → Int32 → Int32 → Int32 → xM → Option (Int32 × xM)) (v1 : Int32) (v2 : Int32) (v3 : Int32) (v4 : Int32) (v5 : Int32) (v6 : Int32) (v7 : Int32) (v8 : Int32) (m : xM) : Option (Int32 × xM) := k108 v1 v2 v3 v4 v5 v6 v7 (v8 + (-1)) m
def fM_best_l108 (k83 : Int32 → Int32 → Int32 → Int32 → Int32 → Int32 → xM → Option (Int32 × xM)) : Nat → Int32 → Int32 → Int32 → Int32 → Int32 → Int32 → Int32 → Int32 → xM → Option (Int32 × xM)
  | 0, _, _, _, _, _, _, _, _, _ => none
  | n + 1, v1, v2, v3, v4, v5, v6, v7, v8, m => (if v8 < 0 then (fM_hasRoom m).bind fun r166 => (if r166 = 0 then fM_best_b181 k83 v1 v2 v3 v4 v5 v6 (-1 : Int32) m else (fM_poorest m v1).bind fun r174 => fM_best_b181 k83 v1 v2 v3 v4 v5 v6 r174 m) else (fM_has v3 v8).bind fun r116 => (if r116 = 0 then fM_best_b159 k83 (fM_best_l108 k83 n) v1 v2 v3 v4 v5 v6 v7 v8 m else xck 1752 (1 : Int32) (xdv ((m.1 0 (1 : Int32).toNatClampNeg) + (1 : Int32)) (xck 1752 ((1742 : Int32) + v8) (xck 1752 (1 : Int32) (xdv (((xset m 0 ((1742 : Int32) + v8).toNatClampNeg ((v7 - v7 / ((m.1 0 (1 : Int32).toNatClampNeg) + (1 : Int32)) * ((m.1 0 (1 : Int32).toNatClampNeg) + (1 : Int32))) - (1 : Int32))).1 0 (1 : Int32).toNatClampNeg) + (1 : Int32)) (fM_best_b159 k83 (fM_best_l108 k83 n) v1 v2 v3 v4 v5 v6 (v7 / (((xset m 0 ((1742 : Int32) + v8).toNatClampNeg ((v7 - v7 / ((m.1 0 (1 : Int32).toNatClampNeg) + (1 : Int32)) * ((m.1 0 (1 : Int32).toNatClampNeg) + (1 : Int32))) - (1 : Int32))).1 0 (1 : Int32).toNatClampNeg) + (1 : Int32))) v8 (xset m 0 ((1742 : Int32) + v8).toNatClampNeg ((v7 - v7 / ((m.1 0 (1 : Int32).toNatClampNeg) + (1 : Int32)) * ((m.1 0 (1 : Int32).toNatClampNeg) + (1 : Int32))) - (1 : Int32))))))))))
def fM_best_l83  : Nat → Int32 → Int32 → Int32 → Int32 → Int32 → Int32 → xM → Option (Int32 × xM)
  | 0, _, _, _, _, _, _, _ => none
  | n + 1, v1, v2, v3, v4, v5, v6, m => (if v4 ≤ v6 then (if v2 = (-1 : Int32) then some (v5, m) else xck 6 v2 (some ((m.1 4 v2.toNatClampNeg), m))) else (fM_tries m).bind fun r95 => xck 1752 (0 : Int32) (fM_best_l108 (fM_best_l83 n) xfu v1 v2 v3 v4 v5 v6 v6 ((r95.1 0 (0 : Int32).toNatClampNeg) - (1 : Int32)) r95))
def fM_best_l49  : Nat → Int32 → Int32 → Int32 → Int32 → Int32 → xM → Option (Int32 × xM)
  | 0, _, _, _, _, _, _ => none
  | n + 1, v1, v2, v3, v4, v5, m => (fM_ones v3).bind fun r52 => (if r52 ≤ v5 then fM_best_l83 xfu v1 v2 v3 v4 (-1 : Int32) (0 : Int32) m else xck 1752 (1 : Int32) (fM_best_l49 n v1 v2 v3 (v4 * ((m.1 0 (1 : Int32).toNatClampNeg) + (1 : Int32))) (v5 + 1) m))
def fM_best_b27  (v1 : Int32) (v2 : Int32) (m : xM) : Option (Int32 × xM) := xck 1752 (1 : Int32) ((if (m.1 0 (1 : Int32).toNatClampNeg) = 0 then some ((-1 : Int32), m) else (fM_freeOnes m).bind fun r39 => fM_best_l49 xfu v1 v2 r39 (1 : Int32) (0 : Int32) m))
def fM_best  (v1 : Int32) (v2 : Int32) (m : xM) : Option (Int32 × xM) := (fM_isString v1).bind fun r1 => (if r1 = 0 then (fM_bad (-10 : Int32) m).bind fun r23 => some (r23.1, r23.2) else (if v2 = (-1 : Int32) then fM_best_b27 v1 v2 m else (fM_isBoard m v2).bind fun r14 => (if r14 = 0 then (fM_bad (-10 : Int32) m).bind fun r23 => some (r23.1, r23.2) else fM_best_b27 v1 v2 m)))
set_option maxRecDepth 100000 in
set_option maxHeartbeats 4000000 in
theorem kM_best_b232 (G : xG)   (z : xM)  (k83 : Int32 → Int32 → Int32 → Int32 → Int32 → Int32 → xM → Option (Int32 × xM)) (hk83 : ∀ (v1 : Int32) (v2 : Int32) (v3 : Int32) (v4 : Int32) (v5 : Int32) (v6 : Int32) (m : xM), xR G yyM_best (emim z) 83 [(0, .ref (xa G 85)), (1, .int v1), (2, .int v2), (3, .int v3), (4, .int v4), (5, .int v5), (6, .int v6)] [] (z, m) (k83 v1 v2 v3 v4 v5 v6 m)) (v1 : Int32) (v2 : Int32) (v3 : Int32) (v4 : Int32) (v5 : Int32) (v6 : Int32) (m : xM) : xR G yyM_best (emim z) 232 [(0, .ref (xa G 85)), (1, .int v1), (2, .int v2), (3, .int v3), (4, .int v4), (5, .int v5), (6, .int v6)] [] (z, m) (fM_best_b232 k83 v1 v2 v3 v4 v5 v6 m) := by
  unfold fM_best_b232
  refine xR_iinc 232 6 (v6 + 1) ([(6, .int (v6 + 1)), (0, .ref (xa G 85)), (1, .int v1), (2, .int v2), (3, .int v3), (4, .int v4), (5, .int v5)]) dM_best_232 rfl rfl (by decide) rfl ?_
  refine xR_goto 235 83 dM_best_235 (by decide) ?_
  exact xR_sub [1, 2, 3, 4, 5, 6, 0] rfl (hk83 v1 v2 v3 v4 v5 (v6 + 1) m)
set_option maxRecDepth 100000 in
set_option maxHeartbeats 4000000 in
theorem kM_best_l197 (G : xG)   (z : xM)  (k83 : Int32 → Int32 → Int32 → Int32 → Int32 → Int32 → xM → Option (Int32 × xM)) (hk83 : ∀ (v1 : Int32) (v2 : Int32) (v3 : Int32) (v4 : Int32) (v5 : Int32) (v6 : Int32) (m : xM), xR G yyM_best (emim z) 83 [(0, .ref (xa G 85)), (1, .int v1), (2, .int v2), (3, .int v3), (4, .int v4), (5, .int v5), (6, .int v6)] [] (z, m) (k83 v1 v2 v3 v4 v5 v6 m)) : ∀ (n : Nat) (v1 : Int32) (v2 : Int32) (v3 : Int32) (v4 : Int32) (v5 : Int32) (v6 : Int32) (v9 : Int32) (m : xM), xR G yyM_best (emim z) 197 [(0, .ref (xa G 85)), (1, .int v1), (2, .int v2), (3, .int v3), (4, .int v4), (5, .int v5), (6, .int v6), (9, .int v9)] [] (z, m) (fM_best_l197 k83 n v1 v2 v3 v4 v5 v6 v9 m) := by
  intro n
  induction n with
  | zero =>
    intro v1 v2 v3 v4 v5 v6 v9 m
    rw [fM_best_l197]
    exact xR_none
  | succ n ih =>
    intro v1 v2 v3 v4 v5 v6 v9 m
    rw [fM_best_l197]
    refine xR_il 197 7 dM_best_197 rfl ?_
    refine xR_aln 199 0 dM_best_199 rfl rfl ?_
    refine xR_getf 200 xcf7 0 85 (by decide) (by decide) rfl (v := .ref (xa G 86)) rfl fl_RX9_7 dM_best_200 ?_
    refine xR_ic 203 (0 : Int32) dM_best_203 (by decide) ?_
    refine xR_iald 204 86 (by decide) rfl dM_best_204 ?_
    refine xR_icge 205 232 dM_best_205 (by decide) ?_ ?_
    · exact xR_sub [0, 1, 2, 3, 4, 5, 6] rfl (kM_best_b232 G z k83 hk83 v1 v2 v3 v4 v5 v6 m)
    · refine xR_aln 208 0 dM_best_208 rfl rfl ?_
      refine xR_getf 209 xcf7 10 85 (by decide) (by decide) rfl (v := .ref (xa G 90)) rfl fl_RX9_30 dM_best_209 ?_
      refine xR_il 212 7 dM_best_212 rfl ?_
      refine xR_aln 214 0 dM_best_214 rfl rfl ?_
      refine xR_getf 215 xcf7 0 85 (by decide) (by decide) rfl (v := .ref (xa G 86)) rfl fl_RX9_7 dM_best_215 ?_
      refine xR_sp 218 (1742 : Int32) dM_best_218 (by decide) ?_
      refine xR_il 221 7 dM_best_221 rfl ?_
      refine xR_iadd 223 dM_best_223 ?_
      refine xR_iald 224 86 (by decide) rfl dM_best_224 ?_
      refine xR_iast 225 90 (by decide) rfl (z, (xset m 4 v9.toNatClampNeg (m.1 0 ((1742 : Int32) + v9).toNatClampNeg))) xW_m4 dM_best_225 ?_
      refine xR_iinc 226 7 (v9 + 1) ([(9, .int (v9 + 1)), (0, .ref (xa G 85)), (1, .int v1), (2, .int v2), (3, .int v3), (4, .int v4), (5, .int v5), (6, .int v6)]) dM_best_226 rfl rfl (by decide) rfl ?_
      refine xR_goto 229 197 dM_best_229 (by decide) ?_
      exact xR_sub [1, 2, 3, 4, 5, 6, 7, 0] rfl (ih v1 v2 v3 v4 v5 v6 (v9 + 1) (xset m 4 v9.toNatClampNeg (m.1 0 ((1742 : Int32) + v9).toNatClampNeg)))
set_option maxRecDepth 100000 in
set_option maxHeartbeats 4000000 in
theorem kM_best_b181 (G : xG)   (z : xM)  (k83 : Int32 → Int32 → Int32 → Int32 → Int32 → Int32 → xM → Option (Int32 × xM)) (hk83 : ∀ (v1 : Int32) (v2 : Int32) (v3 : Int32) (v4 : Int32) (v5 : Int32) (v6 : Int32) (m : xM), xR G yyM_best (emim z) 83 [(0, .ref (xa G 85)), (1, .int v1), (2, .int v2), (3, .int v3), (4, .int v4), (5, .int v5), (6, .int v6)] [] (z, m) (k83 v1 v2 v3 v4 v5 v6 m)) (v1 : Int32) (v2 : Int32) (v3 : Int32) (v4 : Int32) (v5 : Int32) (v6 : Int32) (s0 : Int32) (m : xM) : xR G yyM_best (emim z) 181 [(0, .ref (xa G 85)), (1, .int v1), (2, .int v2), (3, .int v3), (4, .int v4), (5, .int v5), (6, .int v6)] [.int s0] (z, m) (fM_best_b181 k83 v1 v2 v3 v4 v5 v6 s0 m) := by
  unfold fM_best_b181
  refine xR_is 181 ([(8, .int s0), (0, .ref (xa G 85)), (1, .int v1), (2, .int v2), (3, .int v3), (4, .int v4), (5, .int v5), (6, .int v6)]) dM_best_181 (by decide) rfl ?_
  refine xR_il 183 0 dM_best_183 rfl ?_
  refine xR_il 185 6 dM_best_185 rfl ?_
  refine xR_icle 187 232 dM_best_187 (by decide) ?_ ?_
  · exact xR_sub [1, 2, 3, 4, 5, 6, 7] rfl (kM_best_b232 G z k83 hk83 v1 v2 v3 v4 v5 v6 m)
  · refine xR_il 190 0 dM_best_190 rfl ?_
    refine xR_is 192 ([(5, .int s0), (8, .int s0), (0, .ref (xa G 85)), (1, .int v1), (2, .int v2), (3, .int v3), (4, .int v4), (6, .int v6)]) dM_best_192 (by decide) rfl ?_
    refine xR_ic 194 (0 : Int32) dM_best_194 (by decide) ?_
    refine xR_is 195 ([(9, .int (0 : Int32)), (5, .int s0), (8, .int s0), (0, .ref (xa G 85)), (1, .int v1), (2, .int v2), (3, .int v3), (4, .int v4), (6, .int v6)]) dM_best_195 (by decide) rfl ?_
    exact xR_sub [3, 4, 5, 6, 7, 1, 8, 0] rfl (kM_best_l197 G z k83 hk83 xfu v1 v2 v3 v4 s0 v6 (0 : Int32) m)
set_option maxRecDepth 100000 in
set_option maxHeartbeats 4000000 in
theorem kM_best_b159 (G : xG)   (z : xM)  (k83 : Int32 → Int32 → Int32 → Int32 → Int32 → Int32 → xM → Option (Int32 × xM)) (k108 : Int32 → Int32 → Int32 → Int32 → Int32 → Int32 → Int32 → Int32 → xM → Option (Int32 × xM)) (hk83 : ∀ (v1 : Int32) (v2 : Int32) (v3 : Int32) (v4 : Int32) (v5 : Int32) (v6 : Int32) (m : xM), xR G yyM_best (emim z) 83 [(0, .ref (xa G 85)), (1, .int v1), (2, .int v2), (3, .int v3), (4, .int v4), (5, .int v5), (6, .int v6)] [] (z, m) (k83 v1 v2 v3 v4 v5 v6 m)) (hk108 : ∀ (v1 : Int32) (v2 : Int32) (v3 : Int32) (v4 : Int32) (v5 : Int32) (v6 : Int32) (v7 : Int32) (v8 : Int32) (m : xM), xR G yyM_best (emim z) 108 [(0, .ref (xa G 85)), (1, .int v1), (2, .int v2), (3, .int v3), (4, .int v4), (5, .int v5), (6, .int v6), (7, .int v7), (8, .int v8)] [] (z, m) (k108 v1 v2 v3 v4 v5 v6 v7 v8 m)) (v1 : Int32) (v2 : Int32) (v3 : Int32) (v4 : Int32) (v5 : Int32) (v6 : Int32) (v7 : Int32) (v8 : Int32) (m : xM) : xR G yyM_best (emim z) 159 [(0, .ref (xa G 85)), (1, .int v1), (2, .int v2), (3, .int v3), (4, .int v4), (5, .int v5), (6, .int v6), (7, .int v7), (8, .int v8)] [] (z, m) (fM_best_b159 k83 k108 v1 v2 v3 v4 v5 v6 v7 v8 m) := by
  unfold fM_best_b159
  refine xR_iinc 159 8 (v8 + (-1)) ([(8, .int (v8 + (-1))), (0, .ref (xa G 85)), (1, .int v1), (2, .int v2), (3, .int v3), (4, .int v4), (5, .int v5), (6, .int v6), (7, .int v7)]) dM_best_159 rfl rfl (by decide) rfl ?_
  refine xR_goto 162 108 dM_best_162 (by decide) ?_
  exact xR_sub [1, 2, 3, 4, 5, 6, 7, 8, 0] rfl (hk108 v1 v2 v3 v4 v5 v6 v7 (v8 + (-1)) m)
set_option maxRecDepth 100000 in
set_option maxHeartbeats 4000000 in
theorem kM_best_l108 (G : xG)   (z : xM)  (k83 : Int32 → Int32 → Int32 → Int32 → Int32 → Int32 → xM → Option (Int32 × xM)) (hk83 : ∀ (v1 : Int32) (v2 : Int32) (v3 : Int32) (v4 : Int32) (v5 : Int32) (v6 : Int32) (m : xM), xR G yyM_best (emim z) 83 [(0, .ref (xa G 85)), (1, .int v1), (2, .int v2), (3, .int v3), (4, .int v4), (5, .int v5), (6, .int v6)] [] (z, m) (k83 v1 v2 v3 v4 v5 v6 m)) : ∀ (n : Nat) (v1 : Int32) (v2 : Int32) (v3 : Int32) (v4 : Int32) (v5 : Int32) (v6 : Int32) (v7 : Int32) (v8 : Int32) (m : xM), xR G yyM_best (emim z) 108 [(0, .ref (xa G 85)), (1, .int v1), (2, .int v2), (3, .int v3), (4, .int v4), (5, .int v5), (6, .int v6), (7, .int v7), (8, .int v8)] [] (z, m) (fM_best_l108 k83 n v1 v2 v3 v4 v5 v6 v7 v8 m) := by
  intro n
  induction n with
  | zero =>
    intro v1 v2 v3 v4 v5 v6 v7 v8 m
    rw [fM_best_l108]
    exact xR_none
  | succ n ih =>
    intro v1 v2 v3 v4 v5 v6 v7 v8 m
    rw [fM_best_l108]
    refine xR_il 108 8 dM_best_108 rfl ?_
    refine xR_iflt 110 165 dM_best_110 (by decide) ?_ ?_
    · refine xR_aln 165 0 dM_best_165 rfl rfl ?_
      refine xR_callVi 166 cv_M_hasRoom ml_RX9_224 ⟨Nat.le_of_ble_eq_true rfl, Nat.le_of_ble_eq_true rfl⟩ xcf7 rfl 85 (by decide) rfl [] rfl rfl (Nat.le_of_ble_eq_true rfl) dM_best_166 (kM_hasRoom G z m) (fun r166 => ?_)
      refine xR_ifeq 169 180 dM_best_169 (by decide) ?_ ?_
      · refine xR_ic 180 (-1 : Int32) dM_best_180 (by decide) ?_
        exact xR_sub [0, 1, 2, 3, 4, 5, 6] rfl (kM_best_b181 G z k83 hk83 v1 v2 v3 v4 v5 v6 (-1 : Int32) m)
      · refine xR_aln 172 0 dM_best_172 rfl rfl ?_
        refine xR_iln 173 1 dM_best_173 rfl rfl ?_
        refine xR_callVi 174 cv_M_poorest ml_RX9_227 ⟨Nat.le_of_ble_eq_true rfl, Nat.le_of_ble_eq_true rfl⟩ xcf7 rfl 85 (by decide) rfl [.int v1] rfl rfl (Nat.le_of_ble_eq_true rfl) dM_best_174 (kM_poorest G z m v1) (fun r174 => ?_)
        refine xR_goto 177 181 dM_best_177 (by decide) ?_
        exact xR_sub [0, 1, 2, 3, 4, 5, 6] rfl (kM_best_b181 G z k83 hk83 v1 v2 v3 v4 v5 v6 r174 m)
    · refine xR_iln 113 3 dM_best_113 rfl rfl ?_
      refine xR_il 114 8 dM_best_114 rfl ?_
      refine xR_callSi 116 cs_M_has ml_RX9_220 ⟨Nat.le_of_ble_eq_true rfl, Nat.le_of_ble_eq_true rfl⟩ [.int v3, .int v8] rfl rfl (Nat.le_of_ble_eq_true rfl) dM_best_116 (kM_has G (z, m) v3 v8) (fun r116 => ?_)
      refine xR_ifeq 119 159 dM_best_119 (by decide) ?_ ?_
      · exact kM_best_b159 G z k83 (fM_best_l108 k83 n) hk83 ih v1 v2 v3 v4 v5 v6 v7 v8 m
      · refine xR_aln 122 0 dM_best_122 rfl rfl ?_
        refine xR_getf 123 xcf7 0 85 (by decide) (by decide) rfl (v := .ref (xa G 86)) rfl fl_RX9_7 dM_best_123 ?_
        refine xR_sp 126 (1742 : Int32) dM_best_126 (by decide) ?_
        refine xR_il 129 8 dM_best_129 rfl ?_
        refine xR_iadd 131 dM_best_131 ?_
        refine xR_il 132 7 dM_best_132 rfl ?_
        refine xR_aln 134 0 dM_best_134 rfl rfl ?_
        refine xR_getf 135 xcf7 0 85 (by decide) (by decide) rfl (v := .ref (xa G 86)) rfl fl_RX9_7 dM_best_135 ?_
        refine xR_ic 138 (1 : Int32) dM_best_138 (by decide) ?_
        refine xR_iald 139 86 (by decide) rfl dM_best_139 ?_
        refine xR_ic 140 (1 : Int32) dM_best_140 (by decide) ?_
        refine xR_iadd 141 dM_best_141 ?_
        refine xR_dv (fun hd142 => ?_)
        refine xR_irem 142 dM_best_142 hd142 ?_
        refine xR_ic 143 (1 : Int32) dM_best_143 (by decide) ?_
        refine xR_isub 144 dM_best_144 ?_
        refine xR_iast 145 86 (by decide) rfl (z, (xset m 0 ((1742 : Int32) + v8).toNatClampNeg ((v7 - v7 / ((m.1 0 (1 : Int32).toNatClampNeg) + (1 : Int32)) * ((m.1 0 (1 : Int32).toNatClampNeg) + (1 : Int32))) - (1 : Int32)))) xW_m0 dM_best_145 ?_
        refine xR_il 146 7 dM_best_146 rfl ?_
        refine xR_aln 148 0 dM_best_148 rfl rfl ?_
        refine xR_getf 149 xcf7 0 85 (by decide) (by decide) rfl (v := .ref (xa G 86)) rfl fl_RX9_7 dM_best_149 ?_
        refine xR_ic 152 (1 : Int32) dM_best_152 (by decide) ?_
        refine xR_iald 153 86 (by decide) rfl dM_best_153 ?_
        refine xR_ic 154 (1 : Int32) dM_best_154 (by decide) ?_
        refine xR_iadd 155 dM_best_155 ?_
        refine xR_dv (fun hd156 => ?_)
        refine xR_idiv 156 dM_best_156 hd156 ?_
        refine xR_is 157 ([(7, .int (v7 / (((xset m 0 ((1742 : Int32) + v8).toNatClampNeg ((v7 - v7 / ((m.1 0 (1 : Int32).toNatClampNeg) + (1 : Int32)) * ((m.1 0 (1 : Int32).toNatClampNeg) + (1 : Int32))) - (1 : Int32))).1 0 (1 : Int32).toNatClampNeg) + (1 : Int32)))), (0, .ref (xa G 85)), (1, .int v1), (2, .int v2), (3, .int v3), (4, .int v4), (5, .int v5), (6, .int v6), (8, .int v8)]) dM_best_157 (by decide) rfl ?_
        exact xR_sub [1, 2, 3, 4, 5, 6, 7, 0, 8] rfl (kM_best_b159 G z k83 (fM_best_l108 k83 n) hk83 ih v1 v2 v3 v4 v5 v6 (v7 / (((xset m 0 ((1742 : Int32) + v8).toNatClampNeg ((v7 - v7 / ((m.1 0 (1 : Int32).toNatClampNeg) + (1 : Int32)) * ((m.1 0 (1 : Int32).toNatClampNeg) + (1 : Int32))) - (1 : Int32))).1 0 (1 : Int32).toNatClampNeg) + (1 : Int32))) v8 (xset m 0 ((1742 : Int32) + v8).toNatClampNeg ((v7 - v7 / ((m.1 0 (1 : Int32).toNatClampNeg) + (1 : Int32)) * ((m.1 0 (1 : Int32).toNatClampNeg) + (1 : Int32))) - (1 : Int32))))
set_option maxRecDepth 100000 in
set_option maxHeartbeats 4000000 in
theorem kM_best_l83 (G : xG)   (z : xM)    : ∀ (n : Nat) (v1 : Int32) (v2 : Int32) (v3 : Int32) (v4 : Int32) (v5 : Int32) (v6 : Int32) (m : xM), xR G yyM_best (emim z) 83 [(0, .ref (xa G 85)), (1, .int v1), (2, .int v2), (3, .int v3), (4, .int v4), (5, .int v5), (6, .int v6)] [] (z, m) (fM_best_l83  n v1 v2 v3 v4 v5 v6 m) := by
  intro n
  induction n with
  | zero =>
    intro v1 v2 v3 v4 v5 v6 m
    rw [fM_best_l83]
    exact xR_none
  | succ n ih =>
    intro v1 v2 v3 v4 v5 v6 m
    rw [fM_best_l83]
    refine xR_il 83 6 dM_best_83 rfl ?_
    refine xR_il 85 4 dM_best_85 rfl ?_
    refine xR_icge 87 238 dM_best_87 (by decide) ?_ ?_
    · refine xR_iln 238 2 dM_best_238 rfl rfl ?_
      refine xR_ic 239 (-1 : Int32) dM_best_239 (by decide) ?_
      refine xR_icne 240 248 dM_best_240 (by decide) ?_ ?_
      · refine xR_aln 248 0 dM_best_248 rfl rfl ?_
        refine xR_getf 249 xcf7 10 85 (by decide) (by decide) rfl (v := .ref (xa G 90)) rfl fl_RX9_30 dM_best_249 ?_
        refine xR_iln 252 2 dM_best_252 rfl rfl ?_
        refine xR_iald 253 90 (by decide) rfl dM_best_253 ?_
        exact xR_iret 254 rfl rfl dM_best_254
      · refine xR_il 243 5 dM_best_243 rfl ?_
        refine xR_goto 245 254 dM_best_245 (by decide) ?_
        exact xR_iret 254 rfl rfl dM_best_254
    · refine xR_il 90 6 dM_best_90 rfl ?_
      refine xR_is 92 ([(7, .int v6), (0, .ref (xa G 85)), (1, .int v1), (2, .int v2), (3, .int v3), (4, .int v4), (5, .int v5), (6, .int v6)]) dM_best_92 (by decide) rfl ?_
      refine xR_aln 94 1 dM_best_94 rfl rfl ?_
      refine xR_callVvm 95 cv_M_tries ml_RX9_212 ⟨Nat.le_of_ble_eq_true rfl, Nat.le_of_ble_eq_true rfl⟩ xcf7 rfl 85 (by decide) rfl [] rfl rfl (Nat.le_of_ble_eq_true rfl) dM_best_95 (kM_tries G z m) (fun r95 => ?_)
      refine xR_aln 98 1 dM_best_98 rfl rfl ?_
      refine xR_getf 99 xcf7 0 85 (by decide) (by decide) rfl (v := .ref (xa G 86)) rfl fl_RX9_7 dM_best_99 ?_
      refine xR_ic 102 (0 : Int32) dM_best_102 (by decide) ?_
      refine xR_iald 103 86 (by decide) rfl dM_best_103 ?_
      refine xR_ic 104 (1 : Int32) dM_best_104 (by decide) ?_
      refine xR_isub 105 dM_best_105 ?_
      refine xR_is 106 ([(8, .int ((r95.1 0 (0 : Int32).toNatClampNeg) - (1 : Int32))), (7, .int v6), (0, .ref (xa G 85)), (1, .int v1), (2, .int v2), (3, .int v3), (4, .int v4), (5, .int v5), (6, .int v6)]) dM_best_106 (by decide) rfl ?_
      exact xR_sub [2, 3, 4, 5, 6, 7, 8, 1, 0] rfl (kM_best_l108 G z (fM_best_l83 n) ih xfu v1 v2 v3 v4 v5 v6 v6 ((r95.1 0 (0 : Int32).toNatClampNeg) - (1 : Int32)) r95)
set_option maxRecDepth 100000 in
set_option maxHeartbeats 4000000 in
theorem kM_best_l49 (G : xG)   (z : xM)    : ∀ (n : Nat) (v1 : Int32) (v2 : Int32) (v3 : Int32) (v4 : Int32) (v5 : Int32) (m : xM), xR G yyM_best (emim z) 49 [(0, .ref (xa G 85)), (1, .int v1), (2, .int v2), (3, .int v3), (4, .int v4), (5, .int v5)] [] (z, m) (fM_best_l49  n v1 v2 v3 v4 v5 m) := by
  intro n
  induction n with
  | zero =>
    intro v1 v2 v3 v4 v5 m
    rw [fM_best_l49]
    exact xR_none
  | succ n ih =>
    intro v1 v2 v3 v4 v5 m
    rw [fM_best_l49]
    refine xR_il 49 5 dM_best_49 rfl ?_
    refine xR_iln 51 3 dM_best_51 rfl rfl ?_
    refine xR_callSi 52 cs_M_ones ml_RX9_189 ⟨Nat.le_of_ble_eq_true rfl, Nat.le_of_ble_eq_true rfl⟩ [.int v3] rfl rfl (Nat.le_of_ble_eq_true rfl) dM_best_52 (kM_ones G (z, m) v3) (fun r52 => ?_)
    refine xR_icge 55 77 dM_best_55 (by decide) ?_ ?_
    · refine xR_ic 77 (-1 : Int32) dM_best_77 (by decide) ?_
      refine xR_is 78 ([(5, .int (-1 : Int32)), (0, .ref (xa G 85)), (1, .int v1), (2, .int v2), (3, .int v3), (4, .int v4)]) dM_best_78 (by decide) rfl ?_
      refine xR_ic 80 (0 : Int32) dM_best_80 (by decide) ?_
      refine xR_is 81 ([(6, .int (0 : Int32)), (5, .int (-1 : Int32)), (0, .ref (xa G 85)), (1, .int v1), (2, .int v2), (3, .int v3), (4, .int v4)]) dM_best_81 (by decide) rfl ?_
      exact xR_sub [2, 3, 4, 5, 6, 1, 0] rfl (kM_best_l83 G z xfu v1 v2 v3 v4 (-1 : Int32) (0 : Int32) m)
    · refine xR_il 58 4 dM_best_58 rfl ?_
      refine xR_aln 60 0 dM_best_60 rfl rfl ?_
      refine xR_getf 61 xcf7 0 85 (by decide) (by decide) rfl (v := .ref (xa G 86)) rfl fl_RX9_7 dM_best_61 ?_
      refine xR_ic 64 (1 : Int32) dM_best_64 (by decide) ?_
      refine xR_iald 65 86 (by decide) rfl dM_best_65 ?_
      refine xR_ic 66 (1 : Int32) dM_best_66 (by decide) ?_
      refine xR_iadd 67 dM_best_67 ?_
      refine xR_imul 68 dM_best_68 ?_
      refine xR_is 69 ([(4, .int (v4 * ((m.1 0 (1 : Int32).toNatClampNeg) + (1 : Int32)))), (0, .ref (xa G 85)), (1, .int v1), (2, .int v2), (3, .int v3), (5, .int v5)]) dM_best_69 (by decide) rfl ?_
      refine xR_iinc 71 5 (v5 + 1) ([(5, .int (v5 + 1)), (4, .int (v4 * ((m.1 0 (1 : Int32).toNatClampNeg) + (1 : Int32)))), (0, .ref (xa G 85)), (1, .int v1), (2, .int v2), (3, .int v3)]) dM_best_71 rfl rfl (by decide) rfl ?_
      refine xR_goto 74 49 dM_best_74 (by decide) ?_
      exact xR_sub [2, 3, 4, 5, 1, 0] rfl (ih v1 v2 v3 (v4 * ((m.1 0 (1 : Int32).toNatClampNeg) + (1 : Int32))) (v5 + 1) m)
set_option maxRecDepth 100000 in
set_option maxHeartbeats 4000000 in
theorem kM_best_b27 (G : xG)   (z : xM)    (v1 : Int32) (v2 : Int32) (m : xM) : xR G yyM_best (emim z) 27 [(0, .ref (xa G 85)), (1, .int v1), (2, .int v2)] [] (z, m) (fM_best_b27  v1 v2 m) := by
  unfold fM_best_b27
  refine xR_aln 27 0 dM_best_27 rfl rfl ?_
  refine xR_getf 28 xcf7 0 85 (by decide) (by decide) rfl (v := .ref (xa G 86)) rfl fl_RX9_7 dM_best_28 ?_
  refine xR_ic 31 (1 : Int32) dM_best_31 (by decide) ?_
  refine xR_iald 32 86 (by decide) rfl dM_best_32 ?_
  refine xR_ifne 33 38 dM_best_33 (by decide) ?_ ?_
  · refine xR_aln 38 0 dM_best_38 rfl rfl ?_
    refine xR_callVi 39 cv_M_freeOnes ml_RX9_217 ⟨Nat.le_of_ble_eq_true rfl, Nat.le_of_ble_eq_true rfl⟩ xcf7 rfl 85 (by decide) rfl [] rfl rfl (Nat.le_of_ble_eq_true rfl) dM_best_39 (kM_freeOnes G z m) (fun r39 => ?_)
    refine xR_isn 42 ([(3, .int r39), (0, .ref (xa G 85)), (1, .int v1), (2, .int v2)]) dM_best_42 rfl (by decide) rfl ?_
    refine xR_ic 43 (1 : Int32) dM_best_43 (by decide) ?_
    refine xR_is 44 ([(4, .int (1 : Int32)), (3, .int r39), (0, .ref (xa G 85)), (1, .int v1), (2, .int v2)]) dM_best_44 (by decide) rfl ?_
    refine xR_ic 46 (0 : Int32) dM_best_46 (by decide) ?_
    refine xR_is 47 ([(5, .int (0 : Int32)), (4, .int (1 : Int32)), (3, .int r39), (0, .ref (xa G 85)), (1, .int v1), (2, .int v2)]) dM_best_47 (by decide) rfl ?_
    exact xR_sub [3, 4, 5, 2, 1, 0] rfl (kM_best_l49 G z xfu v1 v2 r39 (1 : Int32) (0 : Int32) m)
  · refine xR_ic 36 (-1 : Int32) dM_best_36 (by decide) ?_
    exact xR_iret 37 rfl rfl dM_best_37
set_option maxRecDepth 100000 in
set_option maxHeartbeats 4000000 in
theorem kM_best (G : xG)   (z : xM) (m : xM) (v1 : Int32) (v2 : Int32) : ∀ a, fM_best  v1 v2 m = some a → xCt G yyM_best [.ref (xa G 85), .int v1, .int v2] (z, m) (some (.int a.1)) (z, a.2) := by
  refine xR_ct (em := (emim z)) rfl (Nat.le_of_ble_eq_true rfl) ?_
  show xR G yyM_best _ 0 [(0, .ref (xa G 85)), (1, .int v1), (2, .int v2)] [] _ _
  unfold fM_best
  refine xR_iln 0 1 dM_best_0 rfl rfl ?_
  refine xR_callSi 1 cs_M_isString ml_RX9_206 ⟨Nat.le_of_ble_eq_true rfl, Nat.le_of_ble_eq_true rfl⟩ [.int v1] rfl rfl (Nat.le_of_ble_eq_true rfl) dM_best_1 (kM_isString G (z, m) v1) (fun r1 => ?_)
  refine xR_ifeq 4 20 dM_best_4 (by decide) ?_ ?_
  · refine xR_aln 20 0 dM_best_20 rfl rfl ?_
    refine xR_bp 21 (-10 : Int32) dM_best_21 (by decide) ?_
    refine xR_callVim 23 cv_M_bad ml_RX9_66 ⟨Nat.le_of_ble_eq_true rfl, Nat.le_of_ble_eq_true rfl⟩ xcf7 rfl 85 (by decide) rfl [.int (-10 : Int32)] rfl rfl (Nat.le_of_ble_eq_true rfl) dM_best_23 (kM_bad G z m (-10 : Int32)) (fun r23 => ?_)
    exact xR_iret 26 rfl rfl dM_best_26
  · refine xR_iln 7 2 dM_best_7 rfl rfl ?_
    refine xR_ic 8 (-1 : Int32) dM_best_8 (by decide) ?_
    refine xR_iceq 9 27 dM_best_9 (by decide) ?_ ?_
    · exact kM_best_b27 G z v1 v2 m
    · refine xR_aln 12 0 dM_best_12 rfl rfl ?_
      refine xR_iln 13 2 dM_best_13 rfl rfl ?_
      refine xR_callVi 14 cv_M_isBoard ml_RX9_84 ⟨Nat.le_of_ble_eq_true rfl, Nat.le_of_ble_eq_true rfl⟩ xcf7 rfl 85 (by decide) rfl [.int v2] rfl rfl (Nat.le_of_ble_eq_true rfl) dM_best_14 (kM_isBoard G z m v2) (fun r14 => ?_)
      refine xR_ifne 17 27 dM_best_17 (by decide) ?_ ?_
      · exact kM_best_b27 G z v1 v2 m
      · refine xR_aln 20 0 dM_best_20 rfl rfl ?_
        refine xR_bp 21 (-10 : Int32) dM_best_21 (by decide) ?_
        refine xR_callVim 23 cv_M_bad ml_RX9_66 ⟨Nat.le_of_ble_eq_true rfl, Nat.le_of_ble_eq_true rfl⟩ xcf7 rfl 85 (by decide) rfl [.int (-10 : Int32)] rfl rfl (Nat.le_of_ble_eq_true rfl) dM_best_23 (kM_bad G z m (-10 : Int32)) (fun r23 => ?_)
        exact xR_iret 26 rfl rfl dM_best_26
theorem dM_areNear_0 : decode (xb yyM_areNear) 0 = .ok (.aload_n 0, 1) := by decide +kernel
theorem dM_areNear_1 : decode (xb yyM_areNear) 1 = .ok (.iconst 0, 1) := by decide +kernel
theorem dM_areNear_2 : decode (xb yyM_areNear) 2 = .ok (.iload_n 1, 1) := by decide +kernel
theorem dM_areNear_3 : decode (xb yyM_areNear) 3 = .ok (.iload_n 3, 1) := by decide +kernel
theorem dM_areNear_4 : decode (xb yyM_areNear) 4 = .ok (.invokevirtual 209, 3) := by decide +kernel
theorem dM_areNear_7 : decode (xb yyM_areNear) 7 = .ok (.aload_n 0, 1) := by decide +kernel
theorem dM_areNear_8 : decode (xb yyM_areNear) 8 = .ok (.iconst 0, 1) := by decide +kernel
theorem dM_areNear_9 : decode (xb yyM_areNear) 9 = .ok (.iload_n 2, 1) := by decide +kernel
theorem dM_areNear_10 : decode (xb yyM_areNear) 10 = .ok (.iload_n 3, 1) := by decide +kernel
theorem dM_areNear_11 : decode (xb yyM_areNear) 11 = .ok (.invokevirtual 209, 3) := by decide +kernel
theorem dM_areNear_14 : decode (xb yyM_areNear) 14 = .ok (.isub, 1) := by decide +kernel
theorem dM_areNear_15 : decode (xb yyM_areNear) 15 = .ok (.i2l, 1) := by decide +kernel
theorem dM_areNear_16 : decode (xb yyM_areNear) 16 = .ok (.ldc2_w 230, 3) := by decide +kernel
theorem dM_areNear_19 : decode (xb yyM_areNear) 19 = .ok (.ldc2_w 64, 3) := by decide +kernel
theorem dM_areNear_22 : decode (xb yyM_areNear) 22 = .ok (.invokestatic 40, 3) := by decide +kernel
theorem dM_areNear_25 : decode (xb yyM_areNear) 25 = .ok (.ireturn, 1) := by decide +kernel
def fM_areNear  (m : xM) (v1 : Int32) (v2 : Int32) (v3 : Int32) : Option (Int32) := (fM_playsIn m (0 : Int32) v1 v3).bind fun r4 => (fM_playsIn m (0 : Int32) v2 v3).bind fun r11 => (fM_in (((r4 - r11)).toInt64) (-4 : Int64) (4 : Int64)).bind fun r22 => some (xnb r22)
set_option maxRecDepth 100000 in
set_option maxHeartbeats 4000000 in
theorem kM_areNear (G : xG)   (z : xM) (m : xM) (v1 : Int32) (v2 : Int32) (v3 : Int32) : ∀ a, fM_areNear m v1 v2 v3 = some a → xCt G yyM_areNear [.ref (xa G 85), .int v1, .int v2, .int v3] (z, m) (some (.int a)) (z, m) := by
  refine xR_ct (em := (emi (z, m))) rfl (Nat.le_of_ble_eq_true rfl) ?_
  show xR G yyM_areNear _ 0 [(0, .ref (xa G 85)), (1, .int v1), (2, .int v2), (3, .int v3)] [] _ _
  unfold fM_areNear
  refine xR_aln 0 0 dM_areNear_0 rfl rfl ?_
  refine xR_ic 1 (0 : Int32) dM_areNear_1 (by decide) ?_
  refine xR_iln 2 1 dM_areNear_2 rfl rfl ?_
  refine xR_iln 3 3 dM_areNear_3 rfl rfl ?_
  refine xR_callVi 4 cv_M_playsIn ml_RX9_209 ⟨Nat.le_of_ble_eq_true rfl, Nat.le_of_ble_eq_true rfl⟩ xcf7 rfl 85 (by decide) rfl [.int (0 : Int32), .int v1, .int v3] rfl rfl (Nat.le_of_ble_eq_true rfl) dM_areNear_4 (kM_playsIn G z m (0 : Int32) v1 v3) (fun r4 => ?_)
  refine xR_aln 7 0 dM_areNear_7 rfl rfl ?_
  refine xR_ic 8 (0 : Int32) dM_areNear_8 (by decide) ?_
  refine xR_iln 9 2 dM_areNear_9 rfl rfl ?_
  refine xR_iln 10 3 dM_areNear_10 rfl rfl ?_
  refine xR_callVi 11 cv_M_playsIn ml_RX9_209 ⟨Nat.le_of_ble_eq_true rfl, Nat.le_of_ble_eq_true rfl⟩ xcf7 rfl 85 (by decide) rfl [.int (0 : Int32), .int v2, .int v3] rfl rfl (Nat.le_of_ble_eq_true rfl) dM_areNear_11 (kM_playsIn G z m (0 : Int32) v2 v3) (fun r11 => ?_)
  refine xR_isub 14 dM_areNear_14 ?_
  refine xR_i2l 15 dM_areNear_15 ?_
  refine xR_ldc2 16 cl_RX9_230 dM_areNear_16 ?_
  refine xR_ldc2 19 cl_RX9_64 dM_areNear_19 ?_
  refine xR_callSi 22 cs_M_in ml_RX9_40 ⟨Nat.le_of_ble_eq_true rfl, Nat.le_of_ble_eq_true rfl⟩ [.long (((r4 - r11)).toInt64), .long (-4 : Int64), .long (4 : Int64)] rfl rfl (Nat.le_of_ble_eq_true rfl) dM_areNear_22 (kM_in G (z, m) (((r4 - r11)).toInt64) (-4 : Int64) (4 : Int64)) (fun r22 => ?_)
  exact xR_zret 25 rfl rfl dM_areNear_25
theorem dM_together_0 : decode (xb yyM_together) 0 = .ok (.aload_n 0, 1) := by decide +kernel
theorem dM_together_1 : decode (xb yyM_together) 1 = .ok (.iload_n 1, 1) := by decide +kernel
theorem dM_together_2 : decode (xb yyM_together) 2 = .ok (.invokevirtual 177, 3) := by decide +kernel
theorem dM_together_5 : decode (xb yyM_together) 5 = .ok (.ifCond .eq 10, 3) := by decide +kernel
theorem dM_together_8 : decode (xb yyM_together) 8 = .ok (.iload_n 2, 1) := by decide +kernel
theorem dM_together_9 : decode (xb yyM_together) 9 = .ok (.invokestatic 206, 3) := by decide +kernel
theorem dM_together_12 : decode (xb yyM_together) 12 = .ok (.ifCond .ne 10, 3) := by decide +kernel
theorem dM_together_15 : decode (xb yyM_together) 15 = .ok (.aload_n 0, 1) := by decide +kernel
theorem dM_together_16 : decode (xb yyM_together) 16 = .ok (.bipush (-2), 2) := by decide +kernel
theorem dM_together_18 : decode (xb yyM_together) 18 = .ok (.invokevirtual 66, 3) := by decide +kernel
theorem dM_together_21 : decode (xb yyM_together) 21 = .ok (.ireturn, 1) := by decide +kernel
theorem dM_together_22 : decode (xb yyM_together) 22 = .ok (.iconst 0, 1) := by decide +kernel
theorem dM_together_23 : decode (xb yyM_together) 23 = .ok (.istore_n 3, 1) := by decide +kernel
theorem dM_together_24 : decode (xb yyM_together) 24 = .ok (.iconst 0, 1) := by decide +kernel
theorem dM_together_25 : decode (xb yyM_together) 25 = .ok (.istore 4, 2) := by decide +kernel
theorem dM_together_27 : decode (xb yyM_together) 27 = .ok (.iload 4, 2) := by decide +kernel
theorem dM_together_29 : decode (xb yyM_together) 29 = .ok (.aload_n 0, 1) := by decide +kernel
theorem dM_together_30 : decode (xb yyM_together) 30 = .ok (.getfield 7, 3) := by decide +kernel
theorem dM_together_33 : decode (xb yyM_together) 33 = .ok (.iconst 1, 1) := by decide +kernel
theorem dM_together_34 : decode (xb yyM_together) 34 = .ok (.iaload, 1) := by decide +kernel
theorem dM_together_35 : decode (xb yyM_together) 35 = .ok (.if_icmp .ge 31, 3) := by decide +kernel
theorem dM_together_38 : decode (xb yyM_together) 38 = .ok (.iload_n 3, 1) := by decide +kernel
theorem dM_together_39 : decode (xb yyM_together) 39 = .ok (.aload_n 0, 1) := by decide +kernel
theorem dM_together_40 : decode (xb yyM_together) 40 = .ok (.iload_n 1, 1) := by decide +kernel
theorem dM_together_41 : decode (xb yyM_together) 41 = .ok (.iload 4, 2) := by decide +kernel
theorem dM_together_43 : decode (xb yyM_together) 43 = .ok (.iload_n 2, 1) := by decide +kernel
theorem dM_together_44 : decode (xb yyM_together) 44 = .ok (.invokevirtual 232, 3) := by decide +kernel
theorem dM_together_47 : decode (xb yyM_together) 47 = .ok (.ifCond .eq 10, 3) := by decide +kernel
theorem dM_together_50 : decode (xb yyM_together) 50 = .ok (.iconst 1, 1) := by decide +kernel
theorem dM_together_51 : decode (xb yyM_together) 51 = .ok (.iload 4, 2) := by decide +kernel
theorem dM_together_53 : decode (xb yyM_together) 53 = .ok (.ishl, 1) := by decide +kernel
theorem dM_together_54 : decode (xb yyM_together) 54 = .ok (.goto 4, 3) := by decide +kernel
theorem dM_together_57 : decode (xb yyM_together) 57 = .ok (.iconst 0, 1) := by decide +kernel
theorem dM_together_58 : decode (xb yyM_together) 58 = .ok (.ior, 1) := by decide +kernel
theorem dM_together_59 : decode (xb yyM_together) 59 = .ok (.istore_n 3, 1) := by decide +kernel
theorem dM_together_60 : decode (xb yyM_together) 60 = .ok (.iinc 4 1, 3) := by decide +kernel
theorem dM_together_63 : decode (xb yyM_together) 63 = .ok (.goto (-36), 3) := by decide +kernel
theorem dM_together_66 : decode (xb yyM_together) 66 = .ok (.iload_n 3, 1) := by decide +kernel
theorem dM_together_67 : decode (xb yyM_together) 67 = .ok (.ireturn, 1) := by decide +kernel
def fM_together_b58 (k27 : Int32 → Int32 → Int32 → Int32 → xM → Option (Int32 × xM)) (v1 : Int32) (v2 : Int32) (v4 : Int32) (s0 : Int32) (s1 : Int32) (m : xM) : Option (Int32 × xM) := k27 v1 v2 (s1 ||| s0) (v4 + 1) m
def fM_together_l27  : Nat → Int32 → Int32 → Int32 → Int32 → xM → Option (Int32 × xM)
  | 0, _, _, _, _, _ => none
  | n + 1, v1, v2, v3, v4, m => xck 1752 (1 : Int32) ((if (m.1 0 (1 : Int32).toNatClampNeg) ≤ v4 then some (v3, m) else (fM_areNear m v1 v4 v2).bind fun r44 => (if r44 = 0 then fM_together_b58 (fM_together_l27 n) v1 v2 v4 (0 : Int32) v3 m else fM_together_b58 (fM_together_l27 n) v1 v2 v4 ((1 : Int32) <<< (v4 &&& 31)) v3 m)))
def fM_together  (v1 : Int32) (v2 : Int32) (m : xM) : Option (Int32 × xM) := (fM_isInstrument m v1).bind fun r2 => (if r2 = 0 then (fM_bad (-2 : Int32) m).bind fun r18 => some (r18.1, r18.2) else (fM_isString v2).bind fun r9 => (if r9 = 0 then (fM_bad (-2 : Int32) m).bind fun r18 => some (r18.1, r18.2) else fM_together_l27 xfu v1 v2 (0 : Int32) (0 : Int32) m))
set_option maxRecDepth 100000 in
set_option maxHeartbeats 4000000 in
theorem kM_together_b58 (G : xG)   (z : xM)  (k27 : Int32 → Int32 → Int32 → Int32 → xM → Option (Int32 × xM)) (hk27 : ∀ (v1 : Int32) (v2 : Int32) (v3 : Int32) (v4 : Int32) (m : xM), xR G yyM_together (emim z) 27 [(0, .ref (xa G 85)), (1, .int v1), (2, .int v2), (3, .int v3), (4, .int v4)] [] (z, m) (k27 v1 v2 v3 v4 m)) (v1 : Int32) (v2 : Int32) (v4 : Int32) (s0 : Int32) (s1 : Int32) (m : xM) : xR G yyM_together (emim z) 58 [(0, .ref (xa G 85)), (1, .int v1), (2, .int v2), (4, .int v4)] [.int s0, .int s1] (z, m) (fM_together_b58 k27 v1 v2 v4 s0 s1 m) := by
  unfold fM_together_b58
  refine xR_ior 58 dM_together_58 ?_
  refine xR_isn 59 ([(3, .int (s1 ||| s0)), (0, .ref (xa G 85)), (1, .int v1), (2, .int v2), (4, .int v4)]) dM_together_59 rfl (by decide) rfl ?_
  refine xR_iinc 60 4 (v4 + 1) ([(4, .int (v4 + 1)), (3, .int (s1 ||| s0)), (0, .ref (xa G 85)), (1, .int v1), (2, .int v2)]) dM_together_60 rfl rfl (by decide) rfl ?_
  refine xR_goto 63 27 dM_together_63 (by decide) ?_
  exact xR_sub [2, 3, 4, 1, 0] rfl (hk27 v1 v2 (s1 ||| s0) (v4 + 1) m)
set_option maxRecDepth 100000 in
set_option maxHeartbeats 4000000 in
theorem kM_together_l27 (G : xG)   (z : xM)    : ∀ (n : Nat) (v1 : Int32) (v2 : Int32) (v3 : Int32) (v4 : Int32) (m : xM), xR G yyM_together (emim z) 27 [(0, .ref (xa G 85)), (1, .int v1), (2, .int v2), (3, .int v3), (4, .int v4)] [] (z, m) (fM_together_l27  n v1 v2 v3 v4 m) := by
  intro n
  induction n with
  | zero =>
    intro v1 v2 v3 v4 m
    rw [fM_together_l27]
    exact xR_none
  | succ n ih =>
    intro v1 v2 v3 v4 m
    rw [fM_together_l27]
    refine xR_il 27 4 dM_together_27 rfl ?_
    refine xR_aln 29 0 dM_together_29 rfl rfl ?_
    refine xR_getf 30 xcf7 0 85 (by decide) (by decide) rfl (v := .ref (xa G 86)) rfl fl_RX9_7 dM_together_30 ?_
    refine xR_ic 33 (1 : Int32) dM_together_33 (by decide) ?_
    refine xR_iald 34 86 (by decide) rfl dM_together_34 ?_
    refine xR_icge 35 66 dM_together_35 (by decide) ?_ ?_
    · refine xR_iln 66 3 dM_together_66 rfl rfl ?_
      exact xR_iret 67 rfl rfl dM_together_67
    · refine xR_iln 38 3 dM_together_38 rfl rfl ?_
      refine xR_aln 39 0 dM_together_39 rfl rfl ?_
      refine xR_iln 40 1 dM_together_40 rfl rfl ?_
      refine xR_il 41 4 dM_together_41 rfl ?_
      refine xR_iln 43 2 dM_together_43 rfl rfl ?_
      refine xR_callVi 44 cv_M_areNear ml_RX9_232 ⟨Nat.le_of_ble_eq_true rfl, Nat.le_of_ble_eq_true rfl⟩ xcf7 rfl 85 (by decide) rfl [.int v1, .int v4, .int v2] rfl rfl (Nat.le_of_ble_eq_true rfl) dM_together_44 (kM_areNear G z m v1 v4 v2) (fun r44 => ?_)
      refine xR_ifeq 47 57 dM_together_47 (by decide) ?_ ?_
      · refine xR_ic 57 (0 : Int32) dM_together_57 (by decide) ?_
        exact xR_sub [0, 1, 2, 4] rfl (kM_together_b58 G z (fM_together_l27 n) ih v1 v2 v4 (0 : Int32) v3 m)
      · refine xR_ic 50 (1 : Int32) dM_together_50 (by decide) ?_
        refine xR_il 51 4 dM_together_51 rfl ?_
        refine xR_ishl 53 dM_together_53 ?_
        refine xR_goto 54 58 dM_together_54 (by decide) ?_
        exact xR_sub [0, 1, 2, 4] rfl (kM_together_b58 G z (fM_together_l27 n) ih v1 v2 v4 ((1 : Int32) <<< (v4 &&& 31)) v3 m)
set_option maxRecDepth 100000 in
set_option maxHeartbeats 4000000 in
theorem kM_together (G : xG)   (z : xM) (m : xM) (v1 : Int32) (v2 : Int32) : ∀ a, fM_together  v1 v2 m = some a → xCt G yyM_together [.ref (xa G 85), .int v1, .int v2] (z, m) (some (.int a.1)) (z, a.2) := by
  refine xR_ct (em := (emim z)) rfl (Nat.le_of_ble_eq_true rfl) ?_
  show xR G yyM_together _ 0 [(0, .ref (xa G 85)), (1, .int v1), (2, .int v2)] [] _ _
  unfold fM_together
  refine xR_aln 0 0 dM_together_0 rfl rfl ?_
  refine xR_iln 1 1 dM_together_1 rfl rfl ?_
  refine xR_callVi 2 cv_M_isInstrument ml_RX9_177 ⟨Nat.le_of_ble_eq_true rfl, Nat.le_of_ble_eq_true rfl⟩ xcf7 rfl 85 (by decide) rfl [.int v1] rfl rfl (Nat.le_of_ble_eq_true rfl) dM_together_2 (kM_isInstrument G z m v1) (fun r2 => ?_)
  refine xR_ifeq 5 15 dM_together_5 (by decide) ?_ ?_
  · refine xR_aln 15 0 dM_together_15 rfl rfl ?_
    refine xR_bp 16 (-2 : Int32) dM_together_16 (by decide) ?_
    refine xR_callVim 18 cv_M_bad ml_RX9_66 ⟨Nat.le_of_ble_eq_true rfl, Nat.le_of_ble_eq_true rfl⟩ xcf7 rfl 85 (by decide) rfl [.int (-2 : Int32)] rfl rfl (Nat.le_of_ble_eq_true rfl) dM_together_18 (kM_bad G z m (-2 : Int32)) (fun r18 => ?_)
    exact xR_iret 21 rfl rfl dM_together_21
  · refine xR_iln 8 2 dM_together_8 rfl rfl ?_
    refine xR_callSi 9 cs_M_isString ml_RX9_206 ⟨Nat.le_of_ble_eq_true rfl, Nat.le_of_ble_eq_true rfl⟩ [.int v2] rfl rfl (Nat.le_of_ble_eq_true rfl) dM_together_9 (kM_isString G (z, m) v2) (fun r9 => ?_)
    refine xR_ifne 12 22 dM_together_12 (by decide) ?_ ?_
    · refine xR_ic 22 (0 : Int32) dM_together_22 (by decide) ?_
      refine xR_isn 23 ([(3, .int (0 : Int32)), (0, .ref (xa G 85)), (1, .int v1), (2, .int v2)]) dM_together_23 rfl (by decide) rfl ?_
      refine xR_ic 24 (0 : Int32) dM_together_24 (by decide) ?_
      refine xR_is 25 ([(4, .int (0 : Int32)), (3, .int (0 : Int32)), (0, .ref (xa G 85)), (1, .int v1), (2, .int v2)]) dM_together_25 (by decide) rfl ?_
      exact xR_sub [2, 3, 4, 1, 0] rfl (kM_together_l27 G z xfu v1 v2 (0 : Int32) (0 : Int32) m)
    · refine xR_aln 15 0 dM_together_15 rfl rfl ?_
      refine xR_bp 16 (-2 : Int32) dM_together_16 (by decide) ?_
      refine xR_callVim 18 cv_M_bad ml_RX9_66 ⟨Nat.le_of_ble_eq_true rfl, Nat.le_of_ble_eq_true rfl⟩ xcf7 rfl 85 (by decide) rfl [.int (-2 : Int32)] rfl rfl (Nat.le_of_ble_eq_true rfl) dM_together_18 (kM_bad G z m (-2 : Int32)) (fun r18 => ?_)
      exact xR_iret 21 rfl rfl dM_together_21
theorem dM_orchestra_0 : decode (xb yyM_orchestra) 0 = .ok (.iconst 0, 1) := by decide +kernel
theorem dM_orchestra_1 : decode (xb yyM_orchestra) 1 = .ok (.istore_n 1, 1) := by decide +kernel
theorem dM_orchestra_2 : decode (xb yyM_orchestra) 2 = .ok (.iconst 1, 1) := by decide +kernel
theorem dM_orchestra_3 : decode (xb yyM_orchestra) 3 = .ok (.istore_n 2, 1) := by decide +kernel
theorem dM_orchestra_4 : decode (xb yyM_orchestra) 4 = .ok (.iload_n 2, 1) := by decide +kernel
theorem dM_orchestra_5 : decode (xb yyM_orchestra) 5 = .ok (.iconst 1, 1) := by decide +kernel
theorem dM_orchestra_6 : decode (xb yyM_orchestra) 6 = .ok (.aload_n 0, 1) := by decide +kernel
theorem dM_orchestra_7 : decode (xb yyM_orchestra) 7 = .ok (.getfield 7, 3) := by decide +kernel
theorem dM_orchestra_10 : decode (xb yyM_orchestra) 10 = .ok (.iconst 1, 1) := by decide +kernel
theorem dM_orchestra_11 : decode (xb yyM_orchestra) 11 = .ok (.iaload, 1) := by decide +kernel
theorem dM_orchestra_12 : decode (xb yyM_orchestra) 12 = .ok (.ishl, 1) := by decide +kernel
theorem dM_orchestra_13 : decode (xb yyM_orchestra) 13 = .ok (.if_icmp .ge 128, 3) := by decide +kernel
theorem dM_orchestra_16 : decode (xb yyM_orchestra) 16 = .ok (.iload_n 2, 1) := by decide +kernel
theorem dM_orchestra_17 : decode (xb yyM_orchestra) 17 = .ok (.invokestatic 189, 3) := by decide +kernel
theorem dM_orchestra_20 : decode (xb yyM_orchestra) 20 = .ok (.iload_n 1, 1) := by decide +kernel
theorem dM_orchestra_21 : decode (xb yyM_orchestra) 21 = .ok (.invokestatic 189, 3) := by decide +kernel
theorem dM_orchestra_24 : decode (xb yyM_orchestra) 24 = .ok (.if_icmp .le 7, 3) := by decide +kernel
theorem dM_orchestra_27 : decode (xb yyM_orchestra) 27 = .ok (.iconst 1, 1) := by decide +kernel
theorem dM_orchestra_28 : decode (xb yyM_orchestra) 28 = .ok (.goto 4, 3) := by decide +kernel
theorem dM_orchestra_31 : decode (xb yyM_orchestra) 31 = .ok (.iconst 0, 1) := by decide +kernel
theorem dM_orchestra_32 : decode (xb yyM_orchestra) 32 = .ok (.istore_n 3, 1) := by decide +kernel
theorem dM_orchestra_33 : decode (xb yyM_orchestra) 33 = .ok (.iconst 0, 1) := by decide +kernel
theorem dM_orchestra_34 : decode (xb yyM_orchestra) 34 = .ok (.istore 4, 2) := by decide +kernel
theorem dM_orchestra_36 : decode (xb yyM_orchestra) 36 = .ok (.iload 4, 2) := by decide +kernel
theorem dM_orchestra_38 : decode (xb yyM_orchestra) 38 = .ok (.aload_n 0, 1) := by decide +kernel
theorem dM_orchestra_39 : decode (xb yyM_orchestra) 39 = .ok (.getfield 7, 3) := by decide +kernel
theorem dM_orchestra_42 : decode (xb yyM_orchestra) 42 = .ok (.iconst 1, 1) := by decide +kernel
theorem dM_orchestra_43 : decode (xb yyM_orchestra) 43 = .ok (.iaload, 1) := by decide +kernel
theorem dM_orchestra_44 : decode (xb yyM_orchestra) 44 = .ok (.if_icmp .ge 81, 3) := by decide +kernel
theorem dM_orchestra_47 : decode (xb yyM_orchestra) 47 = .ok (.iconst 0, 1) := by decide +kernel
theorem dM_orchestra_48 : decode (xb yyM_orchestra) 48 = .ok (.istore 5, 2) := by decide +kernel
theorem dM_orchestra_50 : decode (xb yyM_orchestra) 50 = .ok (.iload 5, 2) := by decide +kernel
theorem dM_orchestra_52 : decode (xb yyM_orchestra) 52 = .ok (.iload 4, 2) := by decide +kernel
theorem dM_orchestra_54 : decode (xb yyM_orchestra) 54 = .ok (.if_icmp .ge 65, 3) := by decide +kernel
theorem dM_orchestra_57 : decode (xb yyM_orchestra) 57 = .ok (.iconst 0, 1) := by decide +kernel
theorem dM_orchestra_58 : decode (xb yyM_orchestra) 58 = .ok (.istore 6, 2) := by decide +kernel
theorem dM_orchestra_60 : decode (xb yyM_orchestra) 60 = .ok (.iload 6, 2) := by decide +kernel
theorem dM_orchestra_62 : decode (xb yyM_orchestra) 62 = .ok (.iconst 4, 1) := by decide +kernel
theorem dM_orchestra_63 : decode (xb yyM_orchestra) 63 = .ok (.if_icmp .ge 50, 3) := by decide +kernel
theorem dM_orchestra_66 : decode (xb yyM_orchestra) 66 = .ok (.iload_n 3, 1) := by decide +kernel
theorem dM_orchestra_67 : decode (xb yyM_orchestra) 67 = .ok (.ifCond .eq 46, 3) := by decide +kernel
theorem dM_orchestra_70 : decode (xb yyM_orchestra) 70 = .ok (.iload_n 2, 1) := by decide +kernel
theorem dM_orchestra_71 : decode (xb yyM_orchestra) 71 = .ok (.iload 4, 2) := by decide +kernel
theorem dM_orchestra_73 : decode (xb yyM_orchestra) 73 = .ok (.invokestatic 220, 3) := by decide +kernel
theorem dM_orchestra_76 : decode (xb yyM_orchestra) 76 = .ok (.ifCond .eq 25, 3) := by decide +kernel
theorem dM_orchestra_79 : decode (xb yyM_orchestra) 79 = .ok (.iload_n 2, 1) := by decide +kernel
theorem dM_orchestra_80 : decode (xb yyM_orchestra) 80 = .ok (.iload 5, 2) := by decide +kernel
theorem dM_orchestra_82 : decode (xb yyM_orchestra) 82 = .ok (.invokestatic 220, 3) := by decide +kernel
theorem dM_orchestra_85 : decode (xb yyM_orchestra) 85 = .ok (.ifCond .eq 16, 3) := by decide +kernel
theorem dM_orchestra_88 : decode (xb yyM_orchestra) 88 = .ok (.aload_n 0, 1) := by decide +kernel
theorem dM_orchestra_89 : decode (xb yyM_orchestra) 89 = .ok (.iload 4, 2) := by decide +kernel
theorem dM_orchestra_91 : decode (xb yyM_orchestra) 91 = .ok (.iload 5, 2) := by decide +kernel
theorem dM_orchestra_93 : decode (xb yyM_orchestra) 93 = .ok (.iload 6, 2) := by decide +kernel
theorem dM_orchestra_95 : decode (xb yyM_orchestra) 95 = .ok (.invokevirtual 232, 3) := by decide +kernel
theorem dM_orchestra_98 : decode (xb yyM_orchestra) 98 = .ok (.ifCond .eq 7, 3) := by decide +kernel
theorem dM_orchestra_101 : decode (xb yyM_orchestra) 101 = .ok (.iconst 1, 1) := by decide +kernel
theorem dM_orchestra_102 : decode (xb yyM_orchestra) 102 = .ok (.goto 4, 3) := by decide +kernel
theorem dM_orchestra_105 : decode (xb yyM_orchestra) 105 = .ok (.iconst 0, 1) := by decide +kernel
theorem dM_orchestra_106 : decode (xb yyM_orchestra) 106 = .ok (.istore_n 3, 1) := by decide +kernel
theorem dM_orchestra_107 : decode (xb yyM_orchestra) 107 = .ok (.iinc 6 1, 3) := by decide +kernel
theorem dM_orchestra_110 : decode (xb yyM_orchestra) 110 = .ok (.goto (-50), 3) := by decide +kernel
theorem dM_orchestra_113 : decode (xb yyM_orchestra) 113 = .ok (.iinc 5 1, 3) := by decide +kernel
theorem dM_orchestra_116 : decode (xb yyM_orchestra) 116 = .ok (.goto (-66), 3) := by decide +kernel
theorem dM_orchestra_119 : decode (xb yyM_orchestra) 119 = .ok (.iinc 4 1, 3) := by decide +kernel
theorem dM_orchestra_122 : decode (xb yyM_orchestra) 122 = .ok (.goto (-86), 3) := by decide +kernel
theorem dM_orchestra_125 : decode (xb yyM_orchestra) 125 = .ok (.iload_n 3, 1) := by decide +kernel
theorem dM_orchestra_126 : decode (xb yyM_orchestra) 126 = .ok (.ifCond .eq 7, 3) := by decide +kernel
theorem dM_orchestra_129 : decode (xb yyM_orchestra) 129 = .ok (.iload_n 2, 1) := by decide +kernel
theorem dM_orchestra_130 : decode (xb yyM_orchestra) 130 = .ok (.goto 4, 3) := by decide +kernel
theorem dM_orchestra_133 : decode (xb yyM_orchestra) 133 = .ok (.iload_n 1, 1) := by decide +kernel
theorem dM_orchestra_134 : decode (xb yyM_orchestra) 134 = .ok (.istore_n 1, 1) := by decide +kernel
theorem dM_orchestra_135 : decode (xb yyM_orchestra) 135 = .ok (.iinc 2 1, 3) := by decide +kernel
theorem dM_orchestra_138 : decode (xb yyM_orchestra) 138 = .ok (.goto (-134), 3) := by decide +kernel
theorem dM_orchestra_141 : decode (xb yyM_orchestra) 141 = .ok (.iload_n 1, 1) := by decide +kernel
theorem dM_orchestra_142 : decode (xb yyM_orchestra) 142 = .ok (.ireturn, 1) := by decide +kernel
def fM_orchestra_b134  (m : xM) (k4 : Int32 → Int32 → Option (Int32)) (v2 : Int32) (s0 : Int32) : Option (Int32) := k4 s0 (v2 + 1)
def fM_orchestra_b113  (m : xM) (k4 : Int32 → Int32 → Option (Int32)) (k36 : Int32 → Int32 → Int32 → Int32 → Option (Int32)) (k50 : Int32 → Int32 → Int32 → Int32 → Int32 → Option (Int32)) (v1 : Int32) (v2 : Int32) (v3 : Int32) (v4 : Int32) (v5 : Int32) : Option (Int32) := k50 v1 v2 v3 v4 (v5 + 1)
def fM_orchestra_b106  (m : xM) (k4 : Int32 → Int32 → Option (Int32)) (k36 : Int32 → Int32 → Int32 → Int32 → Option (Int32)) (k50 : Int32 → Int32 → Int32 → Int32 → Int32 → Option (Int32)) (k60 : Int32 → Int32 → Int32 → Int32 → Int32 → Int32 → Option (Int32)) (v1 : Int32) (v2 : Int32) (v4 : Int32) (v5 : Int32) (v6 : Int32) (s0 : Int32) : Option (Int32) := k60 v1 v2 s0 v4 v5 (v6 + 1)
def fM_orchestra_b101  (m : xM) (k4 : Int32 → Int32 → Option (Int32)) (k36 : Int32 → Int32 → Int32 → Int32 → Option (Int32)) (k50 : Int32 → Int32 → Int32 → Int32 → Int32 → Option (Int32)) (k60 : Int32 → Int32 → Int32 → Int32 → Int32 → Int32 → Option (Int32)) (v1 : Int32) (v2 : Int32) (v4 : Int32) (v5 : Int32) (v6 : Int32) : Option (Int32) := fM_orchestra_b106 m k4 k36 k50 k60 v1 v2 v4 v5 v6 (1 : Int32)
def fM_orchestra_l60  (m : xM) (k4 : Int32 → Int32 → Option (Int32)) (k36 : Int32 → Int32 → Int32 → Int32 → Option (Int32)) (k50 : Int32 → Int32 → Int32 → Int32 → Int32 → Option (Int32)) : Nat → Int32 → Int32 → Int32 → Int32 → Int32 → Int32 → Option (Int32)
  | 0, _, _, _, _, _, _ => none
  | n + 1, v1, v2, v3, v4, v5, v6 => (if (4 : Int32) ≤ v6 then fM_orchestra_b113 m k4 k36 k50 v1 v2 v3 v4 v5 else (if v3 = 0 then fM_orchestra_b113 m k4 k36 k50 v1 v2 v3 v4 v5 else (fM_has v2 v4).bind fun r73 => (if r73 = 0 then fM_orchestra_b101 m k4 k36 k50 (fM_orchestra_l60 m k4 k36 k50 n) v1 v2 v4 v5 v6 else (fM_has v2 v5).bind fun r82 => (if r82 = 0 then fM_orchestra_b101 m k4 k36 k50 (fM_orchestra_l60 m k4 k36 k50 n) v1 v2 v4 v5 v6 else (fM_areNear m v4 v5 v6).bind fun r95 => (if r95 = 0 then fM_orchestra_b106 m k4 k36 k50 (fM_orchestra_l60 m k4 k36 k50 n) v1 v2 v4 v5 v6 (0 : Int32) else fM_orchestra_b101 m k4 k36 k50 (fM_orchestra_l60 m k4 k36 k50 n) v1 v2 v4 v5 v6)))))
def fM_orchestra_l50  (m : xM) (k4 : Int32 → Int32 → Option (Int32)) (k36 : Int32 → Int32 → Int32 → Int32 → Option (Int32)) : Nat → Int32 → Int32 → Int32 → Int32 → Int32 → Option (Int32)
  | 0, _, _, _, _, _ => none
  | n + 1, v1, v2, v3, v4, v5 => (if v4 ≤ v5 then k36 v1 v2 v3 (v4 + 1) else fM_orchestra_l60 m k4 k36 (fM_orchestra_l50 m k4 k36 n) xfu v1 v2 v3 v4 v5 (0 : Int32))
def fM_orchestra_l36  (m : xM) (k4 : Int32 → Int32 → Option (Int32)) : Nat → Int32 → Int32 → Int32 → Int32 → Option (Int32)
  | 0, _, _, _, _ => none
  | n + 1, v1, v2, v3, v4 => xck 1752 (1 : Int32) ((if (m.1 0 (1 : Int32).toNatClampNeg) ≤ v4 then (if v3 = 0 then fM_orchestra_b134 m k4 v2 v1 else fM_orchestra_b134 m k4 v2 v2) else fM_orchestra_l50 m k4 (fM_orchestra_l36 m k4 n) xfu v1 v2 v3 v4 (0 : Int32)))
def fM_orchestra_b32  (m : xM) (k4 : Int32 → Int32 → Option (Int32)) (v1 : Int32) (v2 : Int32) (s0 : Int32) : Option (Int32) := fM_orchestra_l36 m k4 xfu v1 v2 s0 (0 : Int32)
def fM_orchestra_l4  (m : xM) : Nat → Int32 → Int32 → Option (Int32)
  | 0, _, _ => none
  | n + 1, v1, v2 => xck 1752 (1 : Int32) ((if ((1 : Int32) <<< ((m.1 0 (1 : Int32).toNatClampNeg) &&& 31)) ≤ v2 then some v1 else (fM_ones v2).bind fun r17 => (fM_ones v1).bind fun r21 => (if r17 ≤ r21 then fM_orchestra_b32 m (fM_orchestra_l4 m n) v1 v2 (0 : Int32) else fM_orchestra_b32 m (fM_orchestra_l4 m n) v1 v2 (1 : Int32))))
def fM_orchestra  (m : xM) : Option (Int32) := fM_orchestra_l4 m xfu (0 : Int32) (1 : Int32)
set_option maxRecDepth 100000 in
set_option maxHeartbeats 4000000 in
theorem kM_orchestra_b134 (G : xG)   (z : xM) (m : xM) (k4 : Int32 → Int32 → Option (Int32)) (hk4 : ∀ (v1 : Int32) (v2 : Int32), xR G yyM_orchestra (emi (z, m)) 4 [(0, .ref (xa G 85)), (1, .int v1), (2, .int v2)] [] (z, m) (k4 v1 v2)) (v2 : Int32) (s0 : Int32) : xR G yyM_orchestra (emi (z, m)) 134 [(0, .ref (xa G 85)), (2, .int v2)] [.int s0] (z, m) (fM_orchestra_b134 m k4 v2 s0) := by
  unfold fM_orchestra_b134
  refine xR_isn 134 ([(1, .int s0), (0, .ref (xa G 85)), (2, .int v2)]) dM_orchestra_134 rfl (by decide) rfl ?_
  refine xR_iinc 135 2 (v2 + 1) ([(2, .int (v2 + 1)), (1, .int s0), (0, .ref (xa G 85))]) dM_orchestra_135 rfl rfl (by decide) rfl ?_
  refine xR_goto 138 4 dM_orchestra_138 (by decide) ?_
  exact xR_sub [2, 1, 0] rfl (hk4 s0 (v2 + 1))
set_option maxRecDepth 100000 in
set_option maxHeartbeats 4000000 in
theorem kM_orchestra_b113 (G : xG)   (z : xM) (m : xM) (k4 : Int32 → Int32 → Option (Int32)) (k36 : Int32 → Int32 → Int32 → Int32 → Option (Int32)) (k50 : Int32 → Int32 → Int32 → Int32 → Int32 → Option (Int32)) (hk4 : ∀ (v1 : Int32) (v2 : Int32), xR G yyM_orchestra (emi (z, m)) 4 [(0, .ref (xa G 85)), (1, .int v1), (2, .int v2)] [] (z, m) (k4 v1 v2)) (hk36 : ∀ (v1 : Int32) (v2 : Int32) (v3 : Int32) (v4 : Int32), xR G yyM_orchestra (emi (z, m)) 36 [(0, .ref (xa G 85)), (1, .int v1), (2, .int v2), (3, .int v3), (4, .int v4)] [] (z, m) (k36 v1 v2 v3 v4)) (hk50 : ∀ (v1 : Int32) (v2 : Int32) (v3 : Int32) (v4 : Int32) (v5 : Int32), xR G yyM_orchestra (emi (z, m)) 50 [(0, .ref (xa G 85)), (1, .int v1), (2, .int v2), (3, .int v3), (4, .int v4), (5, .int v5)] [] (z, m) (k50 v1 v2 v3 v4 v5)) (v1 : Int32) (v2 : Int32) (v3 : Int32) (v4 : Int32) (v5 : Int32) : xR G yyM_orchestra (emi (z, m)) 113 [(0, .ref (xa G 85)), (1, .int v1), (2, .int v2), (3, .int v3), (4, .int v4), (5, .int v5)] [] (z, m) (fM_orchestra_b113 m k4 k36 k50 v1 v2 v3 v4 v5) := by
  unfold fM_orchestra_b113
  refine xR_iinc 113 5 (v5 + 1) ([(5, .int (v5 + 1)), (0, .ref (xa G 85)), (1, .int v1), (2, .int v2), (3, .int v3), (4, .int v4)]) dM_orchestra_113 rfl rfl (by decide) rfl ?_
  refine xR_goto 116 50 dM_orchestra_116 (by decide) ?_
  exact xR_sub [1, 2, 3, 4, 5, 0] rfl (hk50 v1 v2 v3 v4 (v5 + 1))
set_option maxRecDepth 100000 in
set_option maxHeartbeats 4000000 in
theorem kM_orchestra_b106 (G : xG)   (z : xM) (m : xM) (k4 : Int32 → Int32 → Option (Int32)) (k36 : Int32 → Int32 → Int32 → Int32 → Option (Int32)) (k50 : Int32 → Int32 → Int32 → Int32 → Int32 → Option (Int32)) (k60 : Int32 → Int32 → Int32 → Int32 → Int32 → Int32 → Option (Int32)) (hk4 : ∀ (v1 : Int32) (v2 : Int32), xR G yyM_orchestra (emi (z, m)) 4 [(0, .ref (xa G 85)), (1, .int v1), (2, .int v2)] [] (z, m) (k4 v1 v2)) (hk36 : ∀ (v1 : Int32) (v2 : Int32) (v3 : Int32) (v4 : Int32), xR G yyM_orchestra (emi (z, m)) 36 [(0, .ref (xa G 85)), (1, .int v1), (2, .int v2), (3, .int v3), (4, .int v4)] [] (z, m) (k36 v1 v2 v3 v4)) (hk50 : ∀ (v1 : Int32) (v2 : Int32) (v3 : Int32) (v4 : Int32) (v5 : Int32), xR G yyM_orchestra (emi (z, m)) 50 [(0, .ref (xa G 85)), (1, .int v1), (2, .int v2), (3, .int v3), (4, .int v4), (5, .int v5)] [] (z, m) (k50 v1 v2 v3 v4 v5)) (hk60 : ∀ (v1 : Int32) (v2 : Int32) (v3 : Int32) (v4 : Int32) (v5 : Int32) (v6 : Int32), xR G yyM_orchestra (emi (z, m)) 60 [(0, .ref (xa G 85)), (1, .int v1), (2, .int v2), (3, .int v3), (4, .int v4), (5, .int v5), (6, .int v6)] [] (z, m) (k60 v1 v2 v3 v4 v5 v6)) (v1 : Int32) (v2 : Int32) (v4 : Int32) (v5 : Int32) (v6 : Int32) (s0 : Int32) : xR G yyM_orchestra (emi (z, m)) 106 [(0, .ref (xa G 85)), (1, .int v1), (2, .int v2), (4, .int v4), (5, .int v5), (6, .int v6)] [.int s0] (z, m) (fM_orchestra_b106 m k4 k36 k50 k60 v1 v2 v4 v5 v6 s0) := by
  unfold fM_orchestra_b106
  refine xR_isn 106 ([(3, .int s0), (0, .ref (xa G 85)), (1, .int v1), (2, .int v2), (4, .int v4), (5, .int v5), (6, .int v6)]) dM_orchestra_106 rfl (by decide) rfl ?_
  refine xR_iinc 107 6 (v6 + 1) ([(6, .int (v6 + 1)), (3, .int s0), (0, .ref (xa G 85)), (1, .int v1), (2, .int v2), (4, .int v4), (5, .int v5)]) dM_orchestra_107 rfl rfl (by decide) rfl ?_
  refine xR_goto 110 60 dM_orchestra_110 (by decide) ?_
  exact xR_sub [2, 3, 4, 1, 5, 6, 0] rfl (hk60 v1 v2 s0 v4 v5 (v6 + 1))
set_option maxRecDepth 100000 in
set_option maxHeartbeats 4000000 in
theorem kM_orchestra_b101 (G : xG)   (z : xM) (m : xM) (k4 : Int32 → Int32 → Option (Int32)) (k36 : Int32 → Int32 → Int32 → Int32 → Option (Int32)) (k50 : Int32 → Int32 → Int32 → Int32 → Int32 → Option (Int32)) (k60 : Int32 → Int32 → Int32 → Int32 → Int32 → Int32 → Option (Int32)) (hk4 : ∀ (v1 : Int32) (v2 : Int32), xR G yyM_orchestra (emi (z, m)) 4 [(0, .ref (xa G 85)), (1, .int v1), (2, .int v2)] [] (z, m) (k4 v1 v2)) (hk36 : ∀ (v1 : Int32) (v2 : Int32) (v3 : Int32) (v4 : Int32), xR G yyM_orchestra (emi (z, m)) 36 [(0, .ref (xa G 85)), (1, .int v1), (2, .int v2), (3, .int v3), (4, .int v4)] [] (z, m) (k36 v1 v2 v3 v4)) (hk50 : ∀ (v1 : Int32) (v2 : Int32) (v3 : Int32) (v4 : Int32) (v5 : Int32), xR G yyM_orchestra (emi (z, m)) 50 [(0, .ref (xa G 85)), (1, .int v1), (2, .int v2), (3, .int v3), (4, .int v4), (5, .int v5)] [] (z, m) (k50 v1 v2 v3 v4 v5)) (hk60 : ∀ (v1 : Int32) (v2 : Int32) (v3 : Int32) (v4 : Int32) (v5 : Int32) (v6 : Int32), xR G yyM_orchestra (emi (z, m)) 60 [(0, .ref (xa G 85)), (1, .int v1), (2, .int v2), (3, .int v3), (4, .int v4), (5, .int v5), (6, .int v6)] [] (z, m) (k60 v1 v2 v3 v4 v5 v6)) (v1 : Int32) (v2 : Int32) (v4 : Int32) (v5 : Int32) (v6 : Int32) : xR G yyM_orchestra (emi (z, m)) 101 [(0, .ref (xa G 85)), (1, .int v1), (2, .int v2), (4, .int v4), (5, .int v5), (6, .int v6)] [] (z, m) (fM_orchestra_b101 m k4 k36 k50 k60 v1 v2 v4 v5 v6) := by
  unfold fM_orchestra_b101
  refine xR_ic 101 (1 : Int32) dM_orchestra_101 (by decide) ?_
  refine xR_goto 102 106 dM_orchestra_102 (by decide) ?_
  exact kM_orchestra_b106 G z m k4 k36 k50 k60 hk4 hk36 hk50 hk60 v1 v2 v4 v5 v6 (1 : Int32)
set_option maxRecDepth 100000 in
set_option maxHeartbeats 4000000 in
theorem kM_orchestra_l60 (G : xG)   (z : xM) (m : xM) (k4 : Int32 → Int32 → Option (Int32)) (k36 : Int32 → Int32 → Int32 → Int32 → Option (Int32)) (k50 : Int32 → Int32 → Int32 → Int32 → Int32 → Option (Int32)) (hk4 : ∀ (v1 : Int32) (v2 : Int32), xR G yyM_orchestra (emi (z, m)) 4 [(0, .ref (xa G 85)), (1, .int v1), (2, .int v2)] [] (z, m) (k4 v1 v2)) (hk36 : ∀ (v1 : Int32) (v2 : Int32) (v3 : Int32) (v4 : Int32), xR G yyM_orchestra (emi (z, m)) 36 [(0, .ref (xa G 85)), (1, .int v1), (2, .int v2), (3, .int v3), (4, .int v4)] [] (z, m) (k36 v1 v2 v3 v4)) (hk50 : ∀ (v1 : Int32) (v2 : Int32) (v3 : Int32) (v4 : Int32) (v5 : Int32), xR G yyM_orchestra (emi (z, m)) 50 [(0, .ref (xa G 85)), (1, .int v1), (2, .int v2), (3, .int v3), (4, .int v4), (5, .int v5)] [] (z, m) (k50 v1 v2 v3 v4 v5)) : ∀ (n : Nat) (v1 : Int32) (v2 : Int32) (v3 : Int32) (v4 : Int32) (v5 : Int32) (v6 : Int32), xR G yyM_orchestra (emi (z, m)) 60 [(0, .ref (xa G 85)), (1, .int v1), (2, .int v2), (3, .int v3), (4, .int v4), (5, .int v5), (6, .int v6)] [] (z, m) (fM_orchestra_l60 m k4 k36 k50 n v1 v2 v3 v4 v5 v6) := by
  intro n
  induction n with
  | zero =>
    intro v1 v2 v3 v4 v5 v6
    rw [fM_orchestra_l60]
    exact xR_none
  | succ n ih =>
    intro v1 v2 v3 v4 v5 v6
    rw [fM_orchestra_l60]
    refine xR_il 60 6 dM_orchestra_60 rfl ?_
    refine xR_ic 62 (4 : Int32) dM_orchestra_62 (by decide) ?_
    refine xR_icge 63 113 dM_orchestra_63 (by decide) ?_ ?_
    · exact xR_sub [0, 1, 2, 3, 4, 5] rfl (kM_orchestra_b113 G z m k4 k36 k50 hk4 hk36 hk50 v1 v2 v3 v4 v5)
    · refine xR_iln 66 3 dM_orchestra_66 rfl rfl ?_
      refine xR_ifeq 67 113 dM_orchestra_67 (by decide) ?_ ?_
      · exact xR_sub [0, 1, 2, 3, 4, 5] rfl (kM_orchestra_b113 G z m k4 k36 k50 hk4 hk36 hk50 v1 v2 v3 v4 v5)
      · refine xR_iln 70 2 dM_orchestra_70 rfl rfl ?_
        refine xR_il 71 4 dM_orchestra_71 rfl ?_
        refine xR_callSi 73 cs_M_has ml_RX9_220 ⟨Nat.le_of_ble_eq_true rfl, Nat.le_of_ble_eq_true rfl⟩ [.int v2, .int v4] rfl rfl (Nat.le_of_ble_eq_true rfl) dM_orchestra_73 (kM_has G (z, m) v2 v4) (fun r73 => ?_)
        refine xR_ifeq 76 101 dM_orchestra_76 (by decide) ?_ ?_
        · exact xR_sub [0, 1, 2, 4, 5, 6] rfl (kM_orchestra_b101 G z m k4 k36 k50 (fM_orchestra_l60 m k4 k36 k50 n) hk4 hk36 hk50 ih v1 v2 v4 v5 v6)
        · refine xR_iln 79 2 dM_orchestra_79 rfl rfl ?_
          refine xR_il 80 5 dM_orchestra_80 rfl ?_
          refine xR_callSi 82 cs_M_has ml_RX9_220 ⟨Nat.le_of_ble_eq_true rfl, Nat.le_of_ble_eq_true rfl⟩ [.int v2, .int v5] rfl rfl (Nat.le_of_ble_eq_true rfl) dM_orchestra_82 (kM_has G (z, m) v2 v5) (fun r82 => ?_)
          refine xR_ifeq 85 101 dM_orchestra_85 (by decide) ?_ ?_
          · exact xR_sub [0, 1, 2, 4, 5, 6] rfl (kM_orchestra_b101 G z m k4 k36 k50 (fM_orchestra_l60 m k4 k36 k50 n) hk4 hk36 hk50 ih v1 v2 v4 v5 v6)
          · refine xR_aln 88 0 dM_orchestra_88 rfl rfl ?_
            refine xR_il 89 4 dM_orchestra_89 rfl ?_
            refine xR_il 91 5 dM_orchestra_91 rfl ?_
            refine xR_il 93 6 dM_orchestra_93 rfl ?_
            refine xR_callVi 95 cv_M_areNear ml_RX9_232 ⟨Nat.le_of_ble_eq_true rfl, Nat.le_of_ble_eq_true rfl⟩ xcf7 rfl 85 (by decide) rfl [.int v4, .int v5, .int v6] rfl rfl (Nat.le_of_ble_eq_true rfl) dM_orchestra_95 (kM_areNear G z m v4 v5 v6) (fun r95 => ?_)
            refine xR_ifeq 98 105 dM_orchestra_98 (by decide) ?_ ?_
            · refine xR_ic 105 (0 : Int32) dM_orchestra_105 (by decide) ?_
              exact xR_sub [0, 1, 2, 4, 5, 6] rfl (kM_orchestra_b106 G z m k4 k36 k50 (fM_orchestra_l60 m k4 k36 k50 n) hk4 hk36 hk50 ih v1 v2 v4 v5 v6 (0 : Int32))
            · exact xR_sub [0, 1, 2, 4, 5, 6] rfl (kM_orchestra_b101 G z m k4 k36 k50 (fM_orchestra_l60 m k4 k36 k50 n) hk4 hk36 hk50 ih v1 v2 v4 v5 v6)
set_option maxRecDepth 100000 in
set_option maxHeartbeats 4000000 in
theorem kM_orchestra_l50 (G : xG)   (z : xM) (m : xM) (k4 : Int32 → Int32 → Option (Int32)) (k36 : Int32 → Int32 → Int32 → Int32 → Option (Int32)) (hk4 : ∀ (v1 : Int32) (v2 : Int32), xR G yyM_orchestra (emi (z, m)) 4 [(0, .ref (xa G 85)), (1, .int v1), (2, .int v2)] [] (z, m) (k4 v1 v2)) (hk36 : ∀ (v1 : Int32) (v2 : Int32) (v3 : Int32) (v4 : Int32), xR G yyM_orchestra (emi (z, m)) 36 [(0, .ref (xa G 85)), (1, .int v1), (2, .int v2), (3, .int v3), (4, .int v4)] [] (z, m) (k36 v1 v2 v3 v4)) : ∀ (n : Nat) (v1 : Int32) (v2 : Int32) (v3 : Int32) (v4 : Int32) (v5 : Int32), xR G yyM_orchestra (emi (z, m)) 50 [(0, .ref (xa G 85)), (1, .int v1), (2, .int v2), (3, .int v3), (4, .int v4), (5, .int v5)] [] (z, m) (fM_orchestra_l50 m k4 k36 n v1 v2 v3 v4 v5) := by
  intro n
  induction n with
  | zero =>
    intro v1 v2 v3 v4 v5
    rw [fM_orchestra_l50]
    exact xR_none
  | succ n ih =>
    intro v1 v2 v3 v4 v5
    rw [fM_orchestra_l50]
    refine xR_il 50 5 dM_orchestra_50 rfl ?_
    refine xR_il 52 4 dM_orchestra_52 rfl ?_
    refine xR_icge 54 119 dM_orchestra_54 (by decide) ?_ ?_
    · refine xR_iinc 119 4 (v4 + 1) ([(4, .int (v4 + 1)), (0, .ref (xa G 85)), (1, .int v1), (2, .int v2), (3, .int v3), (5, .int v5)]) dM_orchestra_119 rfl rfl (by decide) rfl ?_
      refine xR_goto 122 36 dM_orchestra_122 (by decide) ?_
      exact xR_sub [1, 2, 3, 4, 0] rfl (hk36 v1 v2 v3 (v4 + 1))
    · refine xR_ic 57 (0 : Int32) dM_orchestra_57 (by decide) ?_
      refine xR_is 58 ([(6, .int (0 : Int32)), (0, .ref (xa G 85)), (1, .int v1), (2, .int v2), (3, .int v3), (4, .int v4), (5, .int v5)]) dM_orchestra_58 (by decide) rfl ?_
      exact xR_sub [1, 2, 3, 4, 5, 6, 0] rfl (kM_orchestra_l60 G z m k4 k36 (fM_orchestra_l50 m k4 k36 n) hk4 hk36 ih xfu v1 v2 v3 v4 v5 (0 : Int32))
set_option maxRecDepth 100000 in
set_option maxHeartbeats 4000000 in
theorem kM_orchestra_l36 (G : xG)   (z : xM) (m : xM) (k4 : Int32 → Int32 → Option (Int32)) (hk4 : ∀ (v1 : Int32) (v2 : Int32), xR G yyM_orchestra (emi (z, m)) 4 [(0, .ref (xa G 85)), (1, .int v1), (2, .int v2)] [] (z, m) (k4 v1 v2)) : ∀ (n : Nat) (v1 : Int32) (v2 : Int32) (v3 : Int32) (v4 : Int32), xR G yyM_orchestra (emi (z, m)) 36 [(0, .ref (xa G 85)), (1, .int v1), (2, .int v2), (3, .int v3), (4, .int v4)] [] (z, m) (fM_orchestra_l36 m k4 n v1 v2 v3 v4) := by
  intro n
  induction n with
  | zero =>
    intro v1 v2 v3 v4
    rw [fM_orchestra_l36]
    exact xR_none
  | succ n ih =>
    intro v1 v2 v3 v4
    rw [fM_orchestra_l36]
    refine xR_il 36 4 dM_orchestra_36 rfl ?_
    refine xR_aln 38 0 dM_orchestra_38 rfl rfl ?_
    refine xR_getf 39 xcf7 0 85 (by decide) (by decide) rfl (v := .ref (xa G 86)) rfl fl_RX9_7 dM_orchestra_39 ?_
    refine xR_ic 42 (1 : Int32) dM_orchestra_42 (by decide) ?_
    refine xR_iald 43 86 (by decide) rfl dM_orchestra_43 ?_
    refine xR_icge 44 125 dM_orchestra_44 (by decide) ?_ ?_
    · refine xR_iln 125 3 dM_orchestra_125 rfl rfl ?_
      refine xR_ifeq 126 133 dM_orchestra_126 (by decide) ?_ ?_
      · refine xR_iln 133 1 dM_orchestra_133 rfl rfl ?_
        exact xR_sub [0, 2] rfl (kM_orchestra_b134 G z m k4 hk4 v2 v1)
      · refine xR_iln 129 2 dM_orchestra_129 rfl rfl ?_
        refine xR_goto 130 134 dM_orchestra_130 (by decide) ?_
        exact xR_sub [0, 2] rfl (kM_orchestra_b134 G z m k4 hk4 v2 v2)
    · refine xR_ic 47 (0 : Int32) dM_orchestra_47 (by decide) ?_
      refine xR_is 48 ([(5, .int (0 : Int32)), (0, .ref (xa G 85)), (1, .int v1), (2, .int v2), (3, .int v3), (4, .int v4)]) dM_orchestra_48 (by decide) rfl ?_
      exact xR_sub [1, 2, 3, 4, 5, 0] rfl (kM_orchestra_l50 G z m k4 (fM_orchestra_l36 m k4 n) hk4 ih xfu v1 v2 v3 v4 (0 : Int32))
set_option maxRecDepth 100000 in
set_option maxHeartbeats 4000000 in
theorem kM_orchestra_b32 (G : xG)   (z : xM) (m : xM) (k4 : Int32 → Int32 → Option (Int32)) (hk4 : ∀ (v1 : Int32) (v2 : Int32), xR G yyM_orchestra (emi (z, m)) 4 [(0, .ref (xa G 85)), (1, .int v1), (2, .int v2)] [] (z, m) (k4 v1 v2)) (v1 : Int32) (v2 : Int32) (s0 : Int32) : xR G yyM_orchestra (emi (z, m)) 32 [(0, .ref (xa G 85)), (1, .int v1), (2, .int v2)] [.int s0] (z, m) (fM_orchestra_b32 m k4 v1 v2 s0) := by
  unfold fM_orchestra_b32
  refine xR_isn 32 ([(3, .int s0), (0, .ref (xa G 85)), (1, .int v1), (2, .int v2)]) dM_orchestra_32 rfl (by decide) rfl ?_
  refine xR_ic 33 (0 : Int32) dM_orchestra_33 (by decide) ?_
  refine xR_is 34 ([(4, .int (0 : Int32)), (3, .int s0), (0, .ref (xa G 85)), (1, .int v1), (2, .int v2)]) dM_orchestra_34 (by decide) rfl ?_
  exact xR_sub [2, 3, 4, 1, 0] rfl (kM_orchestra_l36 G z m k4 hk4 xfu v1 v2 s0 (0 : Int32))
set_option maxRecDepth 100000 in
set_option maxHeartbeats 4000000 in
theorem kM_orchestra_l4 (G : xG)   (z : xM) (m : xM)   : ∀ (n : Nat) (v1 : Int32) (v2 : Int32), xR G yyM_orchestra (emi (z, m)) 4 [(0, .ref (xa G 85)), (1, .int v1), (2, .int v2)] [] (z, m) (fM_orchestra_l4 m n v1 v2) := by
  intro n
  induction n with
  | zero =>
    intro v1 v2
    rw [fM_orchestra_l4]
    exact xR_none
  | succ n ih =>
    intro v1 v2
    rw [fM_orchestra_l4]
    refine xR_iln 4 2 dM_orchestra_4 rfl rfl ?_
    refine xR_ic 5 (1 : Int32) dM_orchestra_5 (by decide) ?_
    refine xR_aln 6 0 dM_orchestra_6 rfl rfl ?_
    refine xR_getf 7 xcf7 0 85 (by decide) (by decide) rfl (v := .ref (xa G 86)) rfl fl_RX9_7 dM_orchestra_7 ?_
    refine xR_ic 10 (1 : Int32) dM_orchestra_10 (by decide) ?_
    refine xR_iald 11 86 (by decide) rfl dM_orchestra_11 ?_
    refine xR_ishl 12 dM_orchestra_12 ?_
    refine xR_icge 13 141 dM_orchestra_13 (by decide) ?_ ?_
    · refine xR_iln 141 1 dM_orchestra_141 rfl rfl ?_
      exact xR_iret 142 rfl rfl dM_orchestra_142
    · refine xR_iln 16 2 dM_orchestra_16 rfl rfl ?_
      refine xR_callSi 17 cs_M_ones ml_RX9_189 ⟨Nat.le_of_ble_eq_true rfl, Nat.le_of_ble_eq_true rfl⟩ [.int v2] rfl rfl (Nat.le_of_ble_eq_true rfl) dM_orchestra_17 (kM_ones G (z, m) v2) (fun r17 => ?_)
      refine xR_iln 20 1 dM_orchestra_20 rfl rfl ?_
      refine xR_callSi 21 cs_M_ones ml_RX9_189 ⟨Nat.le_of_ble_eq_true rfl, Nat.le_of_ble_eq_true rfl⟩ [.int v1] rfl rfl (Nat.le_of_ble_eq_true rfl) dM_orchestra_21 (kM_ones G (z, m) v1) (fun r21 => ?_)
      refine xR_icle 24 31 dM_orchestra_24 (by decide) ?_ ?_
      · refine xR_ic 31 (0 : Int32) dM_orchestra_31 (by decide) ?_
        exact kM_orchestra_b32 G z m (fM_orchestra_l4 m n) ih v1 v2 (0 : Int32)
      · refine xR_ic 27 (1 : Int32) dM_orchestra_27 (by decide) ?_
        refine xR_goto 28 32 dM_orchestra_28 (by decide) ?_
        exact kM_orchestra_b32 G z m (fM_orchestra_l4 m n) ih v1 v2 (1 : Int32)
set_option maxRecDepth 100000 in
set_option maxHeartbeats 4000000 in
theorem kM_orchestra (G : xG)   (z : xM) (m : xM) : ∀ a, fM_orchestra m  = some a → xCt G yyM_orchestra [.ref (xa G 85)] (z, m) (some (.int a)) (z, m) := by
  refine xR_ct (em := (emi (z, m))) rfl (Nat.le_of_ble_eq_true rfl) ?_
  show xR G yyM_orchestra _ 0 [(0, .ref (xa G 85))] [] _ _
  unfold fM_orchestra
  refine xR_ic 0 (0 : Int32) dM_orchestra_0 (by decide) ?_
  refine xR_isn 1 ([(1, .int (0 : Int32)), (0, .ref (xa G 85))]) dM_orchestra_1 rfl (by decide) rfl ?_
  refine xR_ic 2 (1 : Int32) dM_orchestra_2 (by decide) ?_
  refine xR_isn 3 ([(2, .int (1 : Int32)), (1, .int (0 : Int32)), (0, .ref (xa G 85))]) dM_orchestra_3 rfl (by decide) rfl ?_
  exact xR_sub [2, 1, 0] rfl (kM_orchestra_l4 G z m xfu (0 : Int32) (1 : Int32))
theorem dM_heard_0 : decode (xb yyM_heard) 0 = .ok (.iload_n 1, 1) := by decide +kernel
theorem dM_heard_1 : decode (xb yyM_heard) 1 = .ok (.invokestatic 206, 3) := by decide +kernel
theorem dM_heard_4 : decode (xb yyM_heard) 4 = .ok (.ifCond .eq 15, 3) := by decide +kernel
theorem dM_heard_7 : decode (xb yyM_heard) 7 = .ok (.iload_n 2, 1) := by decide +kernel
theorem dM_heard_8 : decode (xb yyM_heard) 8 = .ok (.i2l, 1) := by decide +kernel
theorem dM_heard_9 : decode (xb yyM_heard) 9 = .ok (.lconst 0, 1) := by decide +kernel
theorem dM_heard_10 : decode (xb yyM_heard) 10 = .ok (.ldc2_w 169, 3) := by decide +kernel
theorem dM_heard_13 : decode (xb yyM_heard) 13 = .ok (.invokestatic 40, 3) := by decide +kernel
theorem dM_heard_16 : decode (xb yyM_heard) 16 = .ok (.ifCond .ne 10, 3) := by decide +kernel
theorem dM_heard_19 : decode (xb yyM_heard) 19 = .ok (.aload_n 0, 1) := by decide +kernel
theorem dM_heard_20 : decode (xb yyM_heard) 20 = .ok (.bipush (-2), 2) := by decide +kernel
theorem dM_heard_22 : decode (xb yyM_heard) 22 = .ok (.invokevirtual 66, 3) := by decide +kernel
theorem dM_heard_25 : decode (xb yyM_heard) 25 = .ok (.ireturn, 1) := by decide +kernel
theorem dM_heard_26 : decode (xb yyM_heard) 26 = .ok (.aload_n 0, 1) := by decide +kernel
theorem dM_heard_27 : decode (xb yyM_heard) 27 = .ok (.getfield 7, 3) := by decide +kernel
theorem dM_heard_30 : decode (xb yyM_heard) 30 = .ok (.bipush 48, 2) := by decide +kernel
theorem dM_heard_32 : decode (xb yyM_heard) 32 = .ok (.iaload, 1) := by decide +kernel
theorem dM_heard_33 : decode (xb yyM_heard) 33 = .ok (.bipush 6, 2) := by decide +kernel
theorem dM_heard_35 : decode (xb yyM_heard) 35 = .ok (.if_icmp .ne 8, 3) := by decide +kernel
theorem dM_heard_38 : decode (xb yyM_heard) 38 = .ok (.aload_n 0, 1) := by decide +kernel
theorem dM_heard_39 : decode (xb yyM_heard) 39 = .ok (.invokevirtual 76, 3) := by decide +kernel
theorem dM_heard_42 : decode (xb yyM_heard) 42 = .ok (.ireturn, 1) := by decide +kernel
theorem dM_heard_43 : decode (xb yyM_heard) 43 = .ok (.aload_n 0, 1) := by decide +kernel
theorem dM_heard_44 : decode (xb yyM_heard) 44 = .ok (.getfield 7, 3) := by decide +kernel
theorem dM_heard_47 : decode (xb yyM_heard) 47 = .ok (.bipush 49, 2) := by decide +kernel
theorem dM_heard_49 : decode (xb yyM_heard) 49 = .ok (.iconst 2, 1) := by decide +kernel
theorem dM_heard_50 : decode (xb yyM_heard) 50 = .ok (.aload_n 0, 1) := by decide +kernel
theorem dM_heard_51 : decode (xb yyM_heard) 51 = .ok (.getfield 7, 3) := by decide +kernel
theorem dM_heard_54 : decode (xb yyM_heard) 54 = .ok (.bipush 48, 2) := by decide +kernel
theorem dM_heard_56 : decode (xb yyM_heard) 56 = .ok (.iaload, 1) := by decide +kernel
theorem dM_heard_57 : decode (xb yyM_heard) 57 = .ok (.imul, 1) := by decide +kernel
theorem dM_heard_58 : decode (xb yyM_heard) 58 = .ok (.iadd, 1) := by decide +kernel
theorem dM_heard_59 : decode (xb yyM_heard) 59 = .ok (.iload_n 1, 1) := by decide +kernel
theorem dM_heard_60 : decode (xb yyM_heard) 60 = .ok (.iastore, 1) := by decide +kernel
theorem dM_heard_61 : decode (xb yyM_heard) 61 = .ok (.aload_n 0, 1) := by decide +kernel
theorem dM_heard_62 : decode (xb yyM_heard) 62 = .ok (.getfield 7, 3) := by decide +kernel
theorem dM_heard_65 : decode (xb yyM_heard) 65 = .ok (.bipush 49, 2) := by decide +kernel
theorem dM_heard_67 : decode (xb yyM_heard) 67 = .ok (.iconst 2, 1) := by decide +kernel
theorem dM_heard_68 : decode (xb yyM_heard) 68 = .ok (.aload_n 0, 1) := by decide +kernel
theorem dM_heard_69 : decode (xb yyM_heard) 69 = .ok (.getfield 7, 3) := by decide +kernel
theorem dM_heard_72 : decode (xb yyM_heard) 72 = .ok (.bipush 48, 2) := by decide +kernel
theorem dM_heard_74 : decode (xb yyM_heard) 74 = .ok (.iaload, 1) := by decide +kernel
theorem dM_heard_75 : decode (xb yyM_heard) 75 = .ok (.imul, 1) := by decide +kernel
theorem dM_heard_76 : decode (xb yyM_heard) 76 = .ok (.iadd, 1) := by decide +kernel
theorem dM_heard_77 : decode (xb yyM_heard) 77 = .ok (.iconst 1, 1) := by decide +kernel
theorem dM_heard_78 : decode (xb yyM_heard) 78 = .ok (.iadd, 1) := by decide +kernel
theorem dM_heard_79 : decode (xb yyM_heard) 79 = .ok (.iload_n 2, 1) := by decide +kernel
theorem dM_heard_80 : decode (xb yyM_heard) 80 = .ok (.iastore, 1) := by decide +kernel
theorem dM_heard_81 : decode (xb yyM_heard) 81 = .ok (.aload_n 0, 1) := by decide +kernel
theorem dM_heard_82 : decode (xb yyM_heard) 82 = .ok (.getfield 7, 3) := by decide +kernel
theorem dM_heard_85 : decode (xb yyM_heard) 85 = .ok (.bipush 48, 2) := by decide +kernel
theorem dM_heard_87 : decode (xb yyM_heard) 87 = .ok (.dup2, 1) := by decide +kernel
theorem dM_heard_88 : decode (xb yyM_heard) 88 = .ok (.iaload, 1) := by decide +kernel
theorem dM_heard_89 : decode (xb yyM_heard) 89 = .ok (.iconst 1, 1) := by decide +kernel
theorem dM_heard_90 : decode (xb yyM_heard) 90 = .ok (.iadd, 1) := by decide +kernel
theorem dM_heard_91 : decode (xb yyM_heard) 91 = .ok (.iastore, 1) := by decide +kernel
theorem dM_heard_92 : decode (xb yyM_heard) 92 = .ok (.aload_n 0, 1) := by decide +kernel
theorem dM_heard_93 : decode (xb yyM_heard) 93 = .ok (.getfield 7, 3) := by decide +kernel
theorem dM_heard_96 : decode (xb yyM_heard) 96 = .ok (.bipush 48, 2) := by decide +kernel
theorem dM_heard_98 : decode (xb yyM_heard) 98 = .ok (.iaload, 1) := by decide +kernel
theorem dM_heard_99 : decode (xb yyM_heard) 99 = .ok (.ireturn, 1) := by decide +kernel
def fM_heard  (v1 : Int32) (v2 : Int32) (m : xM) : Option (Int32 × xM) := (fM_isString v1).bind fun r1 => (if r1 = 0 then (fM_bad (-2 : Int32) m).bind fun r22 => some (r22.1, r22.2) else (fM_in ((v2).toInt64) (0 : Int64) (60 : Int64)).bind fun r13 => (if r13 = 0 then (fM_bad (-2 : Int32) m).bind fun r22 => some (r22.1, r22.2) else xck 1752 (48 : Int32) ((if (m.1 0 (48 : Int32).toNatClampNeg) = (6 : Int32) then (fM_full m).bind fun r39 => some (r39.1, r39.2) else xck 1752 (48 : Int32) (xck 1752 ((49 : Int32) + ((2 : Int32) * (m.1 0 (48 : Int32).toNatClampNeg))) (xck 1752 (48 : Int32) (xck 1752 (((49 : Int32) + ((2 : Int32) * ((xset m 0 ((49 : Int32) + ((2 : Int32) * (m.1 0 (48 : Int32).toNatClampNeg))).toNatClampNeg v1).1 0 (48 : Int32).toNatClampNeg))) + (1 : Int32)) (xck 1752 (48 : Int32) (xck 1752 (48 : Int32) (xck 1752 (48 : Int32) (some (((xset (xset (xset m 0 ((49 : Int32) + ((2 : Int32) * (m.1 0 (48 : Int32).toNatClampNeg))).toNatClampNeg v1) 0 (((49 : Int32) + ((2 : Int32) * ((xset m 0 ((49 : Int32) + ((2 : Int32) * (m.1 0 (48 : Int32).toNatClampNeg))).toNatClampNeg v1).1 0 (48 : Int32).toNatClampNeg))) + (1 : Int32)).toNatClampNeg v2) 0 (48 : Int32).toNatClampNeg (((xset (xset m 0 ((49 : Int32) + ((2 : Int32) * (m.1 0 (48 : Int32).toNatClampNeg))).toNatClampNeg v1) 0 (((49 : Int32) + ((2 : Int32) * ((xset m 0 ((49 : Int32) + ((2 : Int32) * (m.1 0 (48 : Int32).toNatClampNeg))).toNatClampNeg v1).1 0 (48 : Int32).toNatClampNeg))) + (1 : Int32)).toNatClampNeg v2).1 0 (48 : Int32).toNatClampNeg) + (1 : Int32))).1 0 (48 : Int32).toNatClampNeg), (xset (xset (xset m 0 ((49 : Int32) + ((2 : Int32) * (m.1 0 (48 : Int32).toNatClampNeg))).toNatClampNeg v1) 0 (((49 : Int32) + ((2 : Int32) * ((xset m 0 ((49 : Int32) + ((2 : Int32) * (m.1 0 (48 : Int32).toNatClampNeg))).toNatClampNeg v1).1 0 (48 : Int32).toNatClampNeg))) + (1 : Int32)).toNatClampNeg v2) 0 (48 : Int32).toNatClampNeg (((xset (xset m 0 ((49 : Int32) + ((2 : Int32) * (m.1 0 (48 : Int32).toNatClampNeg))).toNatClampNeg v1) 0 (((49 : Int32) + ((2 : Int32) * ((xset m 0 ((49 : Int32) + ((2 : Int32) * (m.1 0 (48 : Int32).toNatClampNeg))).toNatClampNeg v1).1 0 (48 : Int32).toNatClampNeg))) + (1 : Int32)).toNatClampNeg v2).1 0 (48 : Int32).toNatClampNeg) + (1 : Int32)))))))))))))))
set_option maxRecDepth 100000 in
set_option maxHeartbeats 4000000 in
theorem kM_heard (G : xG)   (z : xM) (m : xM) (v1 : Int32) (v2 : Int32) : ∀ a, fM_heard  v1 v2 m = some a → xCt G yyM_heard [.ref (xa G 85), .int v1, .int v2] (z, m) (some (.int a.1)) (z, a.2) := by
  refine xR_ct (em := (emim z)) rfl (Nat.le_of_ble_eq_true rfl) ?_
  show xR G yyM_heard _ 0 [(0, .ref (xa G 85)), (1, .int v1), (2, .int v2)] [] _ _
  unfold fM_heard
  refine xR_iln 0 1 dM_heard_0 rfl rfl ?_
  refine xR_callSi 1 cs_M_isString ml_RX9_206 ⟨Nat.le_of_ble_eq_true rfl, Nat.le_of_ble_eq_true rfl⟩ [.int v1] rfl rfl (Nat.le_of_ble_eq_true rfl) dM_heard_1 (kM_isString G (z, m) v1) (fun r1 => ?_)
  refine xR_ifeq 4 19 dM_heard_4 (by decide) ?_ ?_
  · refine xR_aln 19 0 dM_heard_19 rfl rfl ?_
    refine xR_bp 20 (-2 : Int32) dM_heard_20 (by decide) ?_
    refine xR_callVim 22 cv_M_bad ml_RX9_66 ⟨Nat.le_of_ble_eq_true rfl, Nat.le_of_ble_eq_true rfl⟩ xcf7 rfl 85 (by decide) rfl [.int (-2 : Int32)] rfl rfl (Nat.le_of_ble_eq_true rfl) dM_heard_22 (kM_bad G z m (-2 : Int32)) (fun r22 => ?_)
    exact xR_iret 25 rfl rfl dM_heard_25
  · refine xR_iln 7 2 dM_heard_7 rfl rfl ?_
    refine xR_i2l 8 dM_heard_8 ?_
    refine xR_lc 9 (0 : Int64) dM_heard_9 (by decide) ?_
    refine xR_ldc2 10 cl_RX9_169 dM_heard_10 ?_
    refine xR_callSi 13 cs_M_in ml_RX9_40 ⟨Nat.le_of_ble_eq_true rfl, Nat.le_of_ble_eq_true rfl⟩ [.long ((v2).toInt64), .long (0 : Int64), .long (60 : Int64)] rfl rfl (Nat.le_of_ble_eq_true rfl) dM_heard_13 (kM_in G (z, m) ((v2).toInt64) (0 : Int64) (60 : Int64)) (fun r13 => ?_)
    refine xR_ifne 16 26 dM_heard_16 (by decide) ?_ ?_
    · refine xR_aln 26 0 dM_heard_26 rfl rfl ?_
      refine xR_getf 27 xcf7 0 85 (by decide) (by decide) rfl (v := .ref (xa G 86)) rfl fl_RX9_7 dM_heard_27 ?_
      refine xR_bp 30 (48 : Int32) dM_heard_30 (by decide) ?_
      refine xR_iald 32 86 (by decide) rfl dM_heard_32 ?_
      refine xR_bp 33 (6 : Int32) dM_heard_33 (by decide) ?_
      refine xR_icne 35 43 dM_heard_35 (by decide) ?_ ?_
      · refine xR_aln 43 0 dM_heard_43 rfl rfl ?_
        refine xR_getf 44 xcf7 0 85 (by decide) (by decide) rfl (v := .ref (xa G 86)) rfl fl_RX9_7 dM_heard_44 ?_
        refine xR_bp 47 (49 : Int32) dM_heard_47 (by decide) ?_
        refine xR_ic 49 (2 : Int32) dM_heard_49 (by decide) ?_
        refine xR_aln 50 0 dM_heard_50 rfl rfl ?_
        refine xR_getf 51 xcf7 0 85 (by decide) (by decide) rfl (v := .ref (xa G 86)) rfl fl_RX9_7 dM_heard_51 ?_
        refine xR_bp 54 (48 : Int32) dM_heard_54 (by decide) ?_
        refine xR_iald 56 86 (by decide) rfl dM_heard_56 ?_
        refine xR_imul 57 dM_heard_57 ?_
        refine xR_iadd 58 dM_heard_58 ?_
        refine xR_iln 59 1 dM_heard_59 rfl rfl ?_
        refine xR_iast 60 86 (by decide) rfl (z, (xset m 0 ((49 : Int32) + ((2 : Int32) * (m.1 0 (48 : Int32).toNatClampNeg))).toNatClampNeg v1)) xW_m0 dM_heard_60 ?_
        refine xR_aln 61 0 dM_heard_61 rfl rfl ?_
        refine xR_getf 62 xcf7 0 85 (by decide) (by decide) rfl (v := .ref (xa G 86)) rfl fl_RX9_7 dM_heard_62 ?_
        refine xR_bp 65 (49 : Int32) dM_heard_65 (by decide) ?_
        refine xR_ic 67 (2 : Int32) dM_heard_67 (by decide) ?_
        refine xR_aln 68 0 dM_heard_68 rfl rfl ?_
        refine xR_getf 69 xcf7 0 85 (by decide) (by decide) rfl (v := .ref (xa G 86)) rfl fl_RX9_7 dM_heard_69 ?_
        refine xR_bp 72 (48 : Int32) dM_heard_72 (by decide) ?_
        refine xR_iald 74 86 (by decide) rfl dM_heard_74 ?_
        refine xR_imul 75 dM_heard_75 ?_
        refine xR_iadd 76 dM_heard_76 ?_
        refine xR_ic 77 (1 : Int32) dM_heard_77 (by decide) ?_
        refine xR_iadd 78 dM_heard_78 ?_
        refine xR_iln 79 2 dM_heard_79 rfl rfl ?_
        refine xR_iast 80 86 (by decide) rfl (z, (xset (xset m 0 ((49 : Int32) + ((2 : Int32) * (m.1 0 (48 : Int32).toNatClampNeg))).toNatClampNeg v1) 0 (((49 : Int32) + ((2 : Int32) * ((xset m 0 ((49 : Int32) + ((2 : Int32) * (m.1 0 (48 : Int32).toNatClampNeg))).toNatClampNeg v1).1 0 (48 : Int32).toNatClampNeg))) + (1 : Int32)).toNatClampNeg v2)) xW_m0 dM_heard_80 ?_
        refine xR_aln 81 0 dM_heard_81 rfl rfl ?_
        refine xR_getf 82 xcf7 0 85 (by decide) (by decide) rfl (v := .ref (xa G 86)) rfl fl_RX9_7 dM_heard_82 ?_
        refine xR_bp 85 (48 : Int32) dM_heard_85 (by decide) ?_
        refine xR_dup2 87 dM_heard_87 rfl rfl ?_
        refine xR_iald 88 86 (by decide) rfl dM_heard_88 ?_
        refine xR_ic 89 (1 : Int32) dM_heard_89 (by decide) ?_
        refine xR_iadd 90 dM_heard_90 ?_
        refine xR_iast 91 86 (by decide) rfl (z, (xset (xset (xset m 0 ((49 : Int32) + ((2 : Int32) * (m.1 0 (48 : Int32).toNatClampNeg))).toNatClampNeg v1) 0 (((49 : Int32) + ((2 : Int32) * ((xset m 0 ((49 : Int32) + ((2 : Int32) * (m.1 0 (48 : Int32).toNatClampNeg))).toNatClampNeg v1).1 0 (48 : Int32).toNatClampNeg))) + (1 : Int32)).toNatClampNeg v2) 0 (48 : Int32).toNatClampNeg (((xset (xset m 0 ((49 : Int32) + ((2 : Int32) * (m.1 0 (48 : Int32).toNatClampNeg))).toNatClampNeg v1) 0 (((49 : Int32) + ((2 : Int32) * ((xset m 0 ((49 : Int32) + ((2 : Int32) * (m.1 0 (48 : Int32).toNatClampNeg))).toNatClampNeg v1).1 0 (48 : Int32).toNatClampNeg))) + (1 : Int32)).toNatClampNeg v2).1 0 (48 : Int32).toNatClampNeg) + (1 : Int32)))) xW_m0 dM_heard_91 ?_
        refine xR_aln 92 0 dM_heard_92 rfl rfl ?_
        refine xR_getf 93 xcf7 0 85 (by decide) (by decide) rfl (v := .ref (xa G 86)) rfl fl_RX9_7 dM_heard_93 ?_
        refine xR_bp 96 (48 : Int32) dM_heard_96 (by decide) ?_
        refine xR_iald 98 86 (by decide) rfl dM_heard_98 ?_
        exact xR_iret 99 rfl rfl dM_heard_99
      · refine xR_aln 38 0 dM_heard_38 rfl rfl ?_
        refine xR_callVim 39 cv_M_full ml_RX9_76 ⟨Nat.le_of_ble_eq_true rfl, Nat.le_of_ble_eq_true rfl⟩ xcf7 rfl 85 (by decide) rfl [] rfl rfl (Nat.le_of_ble_eq_true rfl) dM_heard_39 (kM_full G z m) (fun r39 => ?_)
        exact xR_iret 42 rfl rfl dM_heard_42
    · refine xR_aln 19 0 dM_heard_19 rfl rfl ?_
      refine xR_bp 20 (-2 : Int32) dM_heard_20 (by decide) ?_
      refine xR_callVim 22 cv_M_bad ml_RX9_66 ⟨Nat.le_of_ble_eq_true rfl, Nat.le_of_ble_eq_true rfl⟩ xcf7 rfl 85 (by decide) rfl [.int (-2 : Int32)] rfl rfl (Nat.le_of_ble_eq_true rfl) dM_heard_22 (kM_bad G z m (-2 : Int32)) (fun r22 => ?_)
      exact xR_iret 25 rfl rfl dM_heard_25
theorem dM_whose_0 : decode (xb yyM_whose) 0 = .ok (.iconst 0, 1) := by decide +kernel
theorem dM_whose_1 : decode (xb yyM_whose) 1 = .ok (.istore_n 1, 1) := by decide +kernel
theorem dM_whose_2 : decode (xb yyM_whose) 2 = .ok (.iconst 0, 1) := by decide +kernel
theorem dM_whose_3 : decode (xb yyM_whose) 3 = .ok (.istore_n 2, 1) := by decide +kernel
theorem dM_whose_4 : decode (xb yyM_whose) 4 = .ok (.iload_n 2, 1) := by decide +kernel
theorem dM_whose_5 : decode (xb yyM_whose) 5 = .ok (.aload_n 0, 1) := by decide +kernel
theorem dM_whose_6 : decode (xb yyM_whose) 6 = .ok (.getfield 7, 3) := by decide +kernel
theorem dM_whose_9 : decode (xb yyM_whose) 9 = .ok (.iconst 0, 1) := by decide +kernel
theorem dM_whose_10 : decode (xb yyM_whose) 10 = .ok (.iaload, 1) := by decide +kernel
theorem dM_whose_11 : decode (xb yyM_whose) 11 = .ok (.if_icmp .ge 91, 3) := by decide +kernel
theorem dM_whose_14 : decode (xb yyM_whose) 14 = .ok (.iconst 1, 1) := by decide +kernel
theorem dM_whose_15 : decode (xb yyM_whose) 15 = .ok (.istore_n 3, 1) := by decide +kernel
theorem dM_whose_16 : decode (xb yyM_whose) 16 = .ok (.iconst 0, 1) := by decide +kernel
theorem dM_whose_17 : decode (xb yyM_whose) 17 = .ok (.istore 4, 2) := by decide +kernel
theorem dM_whose_19 : decode (xb yyM_whose) 19 = .ok (.iload 4, 2) := by decide +kernel
theorem dM_whose_21 : decode (xb yyM_whose) 21 = .ok (.aload_n 0, 1) := by decide +kernel
theorem dM_whose_22 : decode (xb yyM_whose) 22 = .ok (.getfield 7, 3) := by decide +kernel
theorem dM_whose_25 : decode (xb yyM_whose) 25 = .ok (.bipush 48, 2) := by decide +kernel
theorem dM_whose_27 : decode (xb yyM_whose) 27 = .ok (.iaload, 1) := by decide +kernel
theorem dM_whose_28 : decode (xb yyM_whose) 28 = .ok (.if_icmp .ge 54, 3) := by decide +kernel
theorem dM_whose_31 : decode (xb yyM_whose) 31 = .ok (.iload_n 3, 1) := by decide +kernel
theorem dM_whose_32 : decode (xb yyM_whose) 32 = .ok (.ifCond .eq 42, 3) := by decide +kernel
theorem dM_whose_35 : decode (xb yyM_whose) 35 = .ok (.aload_n 0, 1) := by decide +kernel
theorem dM_whose_36 : decode (xb yyM_whose) 36 = .ok (.iconst 0, 1) := by decide +kernel
theorem dM_whose_37 : decode (xb yyM_whose) 37 = .ok (.iload_n 2, 1) := by decide +kernel
theorem dM_whose_38 : decode (xb yyM_whose) 38 = .ok (.aload_n 0, 1) := by decide +kernel
theorem dM_whose_39 : decode (xb yyM_whose) 39 = .ok (.getfield 7, 3) := by decide +kernel
theorem dM_whose_42 : decode (xb yyM_whose) 42 = .ok (.bipush 49, 2) := by decide +kernel
theorem dM_whose_44 : decode (xb yyM_whose) 44 = .ok (.iconst 2, 1) := by decide +kernel
theorem dM_whose_45 : decode (xb yyM_whose) 45 = .ok (.iload 4, 2) := by decide +kernel
theorem dM_whose_47 : decode (xb yyM_whose) 47 = .ok (.imul, 1) := by decide +kernel
theorem dM_whose_48 : decode (xb yyM_whose) 48 = .ok (.iadd, 1) := by decide +kernel
theorem dM_whose_49 : decode (xb yyM_whose) 49 = .ok (.iaload, 1) := by decide +kernel
theorem dM_whose_50 : decode (xb yyM_whose) 50 = .ok (.invokevirtual 199, 3) := by decide +kernel
theorem dM_whose_53 : decode (xb yyM_whose) 53 = .ok (.aload_n 0, 1) := by decide +kernel
theorem dM_whose_54 : decode (xb yyM_whose) 54 = .ok (.getfield 7, 3) := by decide +kernel
theorem dM_whose_57 : decode (xb yyM_whose) 57 = .ok (.bipush 49, 2) := by decide +kernel
theorem dM_whose_59 : decode (xb yyM_whose) 59 = .ok (.iconst 2, 1) := by decide +kernel
theorem dM_whose_60 : decode (xb yyM_whose) 60 = .ok (.iload 4, 2) := by decide +kernel
theorem dM_whose_62 : decode (xb yyM_whose) 62 = .ok (.imul, 1) := by decide +kernel
theorem dM_whose_63 : decode (xb yyM_whose) 63 = .ok (.iadd, 1) := by decide +kernel
theorem dM_whose_64 : decode (xb yyM_whose) 64 = .ok (.iconst 1, 1) := by decide +kernel
theorem dM_whose_65 : decode (xb yyM_whose) 65 = .ok (.iadd, 1) := by decide +kernel
theorem dM_whose_66 : decode (xb yyM_whose) 66 = .ok (.iaload, 1) := by decide +kernel
theorem dM_whose_67 : decode (xb yyM_whose) 67 = .ok (.if_icmp .ne 7, 3) := by decide +kernel
theorem dM_whose_70 : decode (xb yyM_whose) 70 = .ok (.iconst 1, 1) := by decide +kernel
theorem dM_whose_71 : decode (xb yyM_whose) 71 = .ok (.goto 4, 3) := by decide +kernel
theorem dM_whose_74 : decode (xb yyM_whose) 74 = .ok (.iconst 0, 1) := by decide +kernel
theorem dM_whose_75 : decode (xb yyM_whose) 75 = .ok (.istore_n 3, 1) := by decide +kernel
theorem dM_whose_76 : decode (xb yyM_whose) 76 = .ok (.iinc 4 1, 3) := by decide +kernel
theorem dM_whose_79 : decode (xb yyM_whose) 79 = .ok (.goto (-60), 3) := by decide +kernel
theorem dM_whose_82 : decode (xb yyM_whose) 82 = .ok (.iload_n 1, 1) := by decide +kernel
theorem dM_whose_83 : decode (xb yyM_whose) 83 = .ok (.iload_n 3, 1) := by decide +kernel
theorem dM_whose_84 : decode (xb yyM_whose) 84 = .ok (.ifCond .eq 9, 3) := by decide +kernel
theorem dM_whose_87 : decode (xb yyM_whose) 87 = .ok (.iconst 1, 1) := by decide +kernel
theorem dM_whose_88 : decode (xb yyM_whose) 88 = .ok (.iload_n 2, 1) := by decide +kernel
theorem dM_whose_89 : decode (xb yyM_whose) 89 = .ok (.ishl, 1) := by decide +kernel
theorem dM_whose_90 : decode (xb yyM_whose) 90 = .ok (.goto 4, 3) := by decide +kernel
theorem dM_whose_93 : decode (xb yyM_whose) 93 = .ok (.iconst 0, 1) := by decide +kernel
theorem dM_whose_94 : decode (xb yyM_whose) 94 = .ok (.ior, 1) := by decide +kernel
theorem dM_whose_95 : decode (xb yyM_whose) 95 = .ok (.istore_n 1, 1) := by decide +kernel
theorem dM_whose_96 : decode (xb yyM_whose) 96 = .ok (.iinc 2 1, 3) := by decide +kernel
theorem dM_whose_99 : decode (xb yyM_whose) 99 = .ok (.goto (-95), 3) := by decide +kernel
theorem dM_whose_102 : decode (xb yyM_whose) 102 = .ok (.iload_n 1, 1) := by decide +kernel
theorem dM_whose_103 : decode (xb yyM_whose) 103 = .ok (.ireturn, 1) := by decide +kernel
def fM_whose_b94  (m : xM) (k4 : Int32 → Int32 → Option (Int32)) (v2 : Int32) (s0 : Int32) (s1 : Int32) : Option (Int32) := k4 (s1 ||| s0) (v2 + 1)
def fM_whose_b75  (m : xM) (k4 : Int32 → Int32 → Option (Int32)) (k19 : Int32 → Int32 → Int32 → Int32 → Option (Int32)) (v1 : Int32) (v2 : Int32) (v4 : Int32) (s0 : Int32) : Option (Int32) := k19 v1 v2 s0 (v4 + 1)
def fM_whose_b74  (m : xM) (k4 : Int32 → Int32 → Option (Int32)) (k19 : Int32 → Int32 → Int32 → Int32 → Option (Int32)) (v1 : Int32) (v2 : Int32) (v4 : Int32) : Option (Int32) := fM_whose_b75 m k4 k19 v1 v2 v4 (0 : Int32)
def fM_whose_l19  (m : xM) (k4 : Int32 → Int32 → Option (Int32)) : Nat → Int32 → Int32 → Int32 → Int32 → Option (Int32)
  | 0, _, _, _, _ => none
  | n + 1, v1, v2, v3, v4 => xck 1752 (48 : Int32) ((if (m.1 0 (48 : Int32).toNatClampNeg) ≤ v4 then (if v3 = 0 then fM_whose_b94 m k4 v2 (0 : Int32) v1 else fM_whose_b94 m k4 v2 ((1 : Int32) <<< (v2 &&& 31)) v1) else (if v3 = 0 then fM_whose_b74 m k4 (fM_whose_l19 m k4 n) v1 v2 v4 else xck 1752 ((49 : Int32) + ((2 : Int32) * v4)) ((fM_soundsIn m (0 : Int32) v2 (m.1 0 ((49 : Int32) + ((2 : Int32) * v4)).toNatClampNeg)).bind fun r50 => xck 1752 (((49 : Int32) + ((2 : Int32) * v4)) + (1 : Int32)) ((if r50 = (m.1 0 (((49 : Int32) + ((2 : Int32) * v4)) + (1 : Int32)).toNatClampNeg) then fM_whose_b75 m k4 (fM_whose_l19 m k4 n) v1 v2 v4 (1 : Int32) else fM_whose_b74 m k4 (fM_whose_l19 m k4 n) v1 v2 v4))))))
def fM_whose_l4  (m : xM) : Nat → Int32 → Int32 → Option (Int32)
  | 0, _, _ => none
  | n + 1, v1, v2 => xck 1752 (0 : Int32) ((if (m.1 0 (0 : Int32).toNatClampNeg) ≤ v2 then some v1 else fM_whose_l19 m (fM_whose_l4 m n) xfu v1 v2 (1 : Int32) (0 : Int32)))
def fM_whose  (m : xM) : Option (Int32) := fM_whose_l4 m xfu (0 : Int32) (0 : Int32)
set_option maxRecDepth 100000 in
set_option maxHeartbeats 4000000 in
theorem kM_whose_b94 (G : xG)   (z : xM) (m : xM) (k4 : Int32 → Int32 → Option (Int32)) (hk4 : ∀ (v1 : Int32) (v2 : Int32), xR G yyM_whose (emi (z, m)) 4 [(0, .ref (xa G 85)), (1, .int v1), (2, .int v2)] [] (z, m) (k4 v1 v2)) (v2 : Int32) (s0 : Int32) (s1 : Int32) : xR G yyM_whose (emi (z, m)) 94 [(0, .ref (xa G 85)), (2, .int v2)] [.int s0, .int s1] (z, m) (fM_whose_b94 m k4 v2 s0 s1) := by
  unfold fM_whose_b94
  refine xR_ior 94 dM_whose_94 ?_
  refine xR_isn 95 ([(1, .int (s1 ||| s0)), (0, .ref (xa G 85)), (2, .int v2)]) dM_whose_95 rfl (by decide) rfl ?_
  refine xR_iinc 96 2 (v2 + 1) ([(2, .int (v2 + 1)), (1, .int (s1 ||| s0)), (0, .ref (xa G 85))]) dM_whose_96 rfl rfl (by decide) rfl ?_
  refine xR_goto 99 4 dM_whose_99 (by decide) ?_
  exact xR_sub [2, 1, 0] rfl (hk4 (s1 ||| s0) (v2 + 1))
set_option maxRecDepth 100000 in
set_option maxHeartbeats 4000000 in
theorem kM_whose_b75 (G : xG)   (z : xM) (m : xM) (k4 : Int32 → Int32 → Option (Int32)) (k19 : Int32 → Int32 → Int32 → Int32 → Option (Int32)) (hk4 : ∀ (v1 : Int32) (v2 : Int32), xR G yyM_whose (emi (z, m)) 4 [(0, .ref (xa G 85)), (1, .int v1), (2, .int v2)] [] (z, m) (k4 v1 v2)) (hk19 : ∀ (v1 : Int32) (v2 : Int32) (v3 : Int32) (v4 : Int32), xR G yyM_whose (emi (z, m)) 19 [(0, .ref (xa G 85)), (1, .int v1), (2, .int v2), (3, .int v3), (4, .int v4)] [] (z, m) (k19 v1 v2 v3 v4)) (v1 : Int32) (v2 : Int32) (v4 : Int32) (s0 : Int32) : xR G yyM_whose (emi (z, m)) 75 [(0, .ref (xa G 85)), (1, .int v1), (2, .int v2), (4, .int v4)] [.int s0] (z, m) (fM_whose_b75 m k4 k19 v1 v2 v4 s0) := by
  unfold fM_whose_b75
  refine xR_isn 75 ([(3, .int s0), (0, .ref (xa G 85)), (1, .int v1), (2, .int v2), (4, .int v4)]) dM_whose_75 rfl (by decide) rfl ?_
  refine xR_iinc 76 4 (v4 + 1) ([(4, .int (v4 + 1)), (3, .int s0), (0, .ref (xa G 85)), (1, .int v1), (2, .int v2)]) dM_whose_76 rfl rfl (by decide) rfl ?_
  refine xR_goto 79 19 dM_whose_79 (by decide) ?_
  exact xR_sub [2, 3, 4, 1, 0] rfl (hk19 v1 v2 s0 (v4 + 1))
set_option maxRecDepth 100000 in
set_option maxHeartbeats 4000000 in
theorem kM_whose_b74 (G : xG)   (z : xM) (m : xM) (k4 : Int32 → Int32 → Option (Int32)) (k19 : Int32 → Int32 → Int32 → Int32 → Option (Int32)) (hk4 : ∀ (v1 : Int32) (v2 : Int32), xR G yyM_whose (emi (z, m)) 4 [(0, .ref (xa G 85)), (1, .int v1), (2, .int v2)] [] (z, m) (k4 v1 v2)) (hk19 : ∀ (v1 : Int32) (v2 : Int32) (v3 : Int32) (v4 : Int32), xR G yyM_whose (emi (z, m)) 19 [(0, .ref (xa G 85)), (1, .int v1), (2, .int v2), (3, .int v3), (4, .int v4)] [] (z, m) (k19 v1 v2 v3 v4)) (v1 : Int32) (v2 : Int32) (v4 : Int32) : xR G yyM_whose (emi (z, m)) 74 [(0, .ref (xa G 85)), (1, .int v1), (2, .int v2), (4, .int v4)] [] (z, m) (fM_whose_b74 m k4 k19 v1 v2 v4) := by
  unfold fM_whose_b74
  refine xR_ic 74 (0 : Int32) dM_whose_74 (by decide) ?_
  exact kM_whose_b75 G z m k4 k19 hk4 hk19 v1 v2 v4 (0 : Int32)
set_option maxRecDepth 100000 in
set_option maxHeartbeats 4000000 in
theorem kM_whose_l19 (G : xG)   (z : xM) (m : xM) (k4 : Int32 → Int32 → Option (Int32)) (hk4 : ∀ (v1 : Int32) (v2 : Int32), xR G yyM_whose (emi (z, m)) 4 [(0, .ref (xa G 85)), (1, .int v1), (2, .int v2)] [] (z, m) (k4 v1 v2)) : ∀ (n : Nat) (v1 : Int32) (v2 : Int32) (v3 : Int32) (v4 : Int32), xR G yyM_whose (emi (z, m)) 19 [(0, .ref (xa G 85)), (1, .int v1), (2, .int v2), (3, .int v3), (4, .int v4)] [] (z, m) (fM_whose_l19 m k4 n v1 v2 v3 v4) := by
  intro n
  induction n with
  | zero =>
    intro v1 v2 v3 v4
    rw [fM_whose_l19]
    exact xR_none
  | succ n ih =>
    intro v1 v2 v3 v4
    rw [fM_whose_l19]
    refine xR_il 19 4 dM_whose_19 rfl ?_
    refine xR_aln 21 0 dM_whose_21 rfl rfl ?_
    refine xR_getf 22 xcf7 0 85 (by decide) (by decide) rfl (v := .ref (xa G 86)) rfl fl_RX9_7 dM_whose_22 ?_
    refine xR_bp 25 (48 : Int32) dM_whose_25 (by decide) ?_
    refine xR_iald 27 86 (by decide) rfl dM_whose_27 ?_
    refine xR_icge 28 82 dM_whose_28 (by decide) ?_ ?_
    · refine xR_iln 82 1 dM_whose_82 rfl rfl ?_
      refine xR_iln 83 3 dM_whose_83 rfl rfl ?_
      refine xR_ifeq 84 93 dM_whose_84 (by decide) ?_ ?_
      · refine xR_ic 93 (0 : Int32) dM_whose_93 (by decide) ?_
        exact xR_sub [0, 2] rfl (kM_whose_b94 G z m k4 hk4 v2 (0 : Int32) v1)
      · refine xR_ic 87 (1 : Int32) dM_whose_87 (by decide) ?_
        refine xR_iln 88 2 dM_whose_88 rfl rfl ?_
        refine xR_ishl 89 dM_whose_89 ?_
        refine xR_goto 90 94 dM_whose_90 (by decide) ?_
        exact xR_sub [0, 2] rfl (kM_whose_b94 G z m k4 hk4 v2 ((1 : Int32) <<< (v2 &&& 31)) v1)
    · refine xR_iln 31 3 dM_whose_31 rfl rfl ?_
      refine xR_ifeq 32 74 dM_whose_32 (by decide) ?_ ?_
      · exact xR_sub [0, 1, 2, 4] rfl (kM_whose_b74 G z m k4 (fM_whose_l19 m k4 n) hk4 ih v1 v2 v4)
      · refine xR_aln 35 0 dM_whose_35 rfl rfl ?_
        refine xR_ic 36 (0 : Int32) dM_whose_36 (by decide) ?_
        refine xR_iln 37 2 dM_whose_37 rfl rfl ?_
        refine xR_aln 38 0 dM_whose_38 rfl rfl ?_
        refine xR_getf 39 xcf7 0 85 (by decide) (by decide) rfl (v := .ref (xa G 86)) rfl fl_RX9_7 dM_whose_39 ?_
        refine xR_bp 42 (49 : Int32) dM_whose_42 (by decide) ?_
        refine xR_ic 44 (2 : Int32) dM_whose_44 (by decide) ?_
        refine xR_il 45 4 dM_whose_45 rfl ?_
        refine xR_imul 47 dM_whose_47 ?_
        refine xR_iadd 48 dM_whose_48 ?_
        refine xR_iald 49 86 (by decide) rfl dM_whose_49 ?_
        refine xR_callVi 50 cv_M_soundsIn ml_RX9_199 ⟨Nat.le_of_ble_eq_true rfl, Nat.le_of_ble_eq_true rfl⟩ xcf7 rfl 85 (by decide) rfl [.int (0 : Int32), .int v2, .int (m.1 0 ((49 : Int32) + ((2 : Int32) * v4)).toNatClampNeg)] rfl rfl (Nat.le_of_ble_eq_true rfl) dM_whose_50 (kM_soundsIn G z m (0 : Int32) v2 (m.1 0 ((49 : Int32) + ((2 : Int32) * v4)).toNatClampNeg)) (fun r50 => ?_)
        refine xR_aln 53 0 dM_whose_53 rfl rfl ?_
        refine xR_getf 54 xcf7 0 85 (by decide) (by decide) rfl (v := .ref (xa G 86)) rfl fl_RX9_7 dM_whose_54 ?_
        refine xR_bp 57 (49 : Int32) dM_whose_57 (by decide) ?_
        refine xR_ic 59 (2 : Int32) dM_whose_59 (by decide) ?_
        refine xR_il 60 4 dM_whose_60 rfl ?_
        refine xR_imul 62 dM_whose_62 ?_
        refine xR_iadd 63 dM_whose_63 ?_
        refine xR_ic 64 (1 : Int32) dM_whose_64 (by decide) ?_
        refine xR_iadd 65 dM_whose_65 ?_
        refine xR_iald 66 86 (by decide) rfl dM_whose_66 ?_
        refine xR_icne 67 74 dM_whose_67 (by decide) ?_ ?_
        · exact xR_sub [0, 1, 2, 4] rfl (kM_whose_b74 G z m k4 (fM_whose_l19 m k4 n) hk4 ih v1 v2 v4)
        · refine xR_ic 70 (1 : Int32) dM_whose_70 (by decide) ?_
          refine xR_goto 71 75 dM_whose_71 (by decide) ?_
          exact xR_sub [0, 1, 2, 4] rfl (kM_whose_b75 G z m k4 (fM_whose_l19 m k4 n) hk4 ih v1 v2 v4 (1 : Int32))
set_option maxRecDepth 100000 in
set_option maxHeartbeats 4000000 in
theorem kM_whose_l4 (G : xG)   (z : xM) (m : xM)   : ∀ (n : Nat) (v1 : Int32) (v2 : Int32), xR G yyM_whose (emi (z, m)) 4 [(0, .ref (xa G 85)), (1, .int v1), (2, .int v2)] [] (z, m) (fM_whose_l4 m n v1 v2) := by
  intro n
  induction n with
  | zero =>
    intro v1 v2
    rw [fM_whose_l4]
    exact xR_none
  | succ n ih =>
    intro v1 v2
    rw [fM_whose_l4]
    refine xR_iln 4 2 dM_whose_4 rfl rfl ?_
    refine xR_aln 5 0 dM_whose_5 rfl rfl ?_
    refine xR_getf 6 xcf7 0 85 (by decide) (by decide) rfl (v := .ref (xa G 86)) rfl fl_RX9_7 dM_whose_6 ?_
    refine xR_ic 9 (0 : Int32) dM_whose_9 (by decide) ?_
    refine xR_iald 10 86 (by decide) rfl dM_whose_10 ?_
    refine xR_icge 11 102 dM_whose_11 (by decide) ?_ ?_
    · refine xR_iln 102 1 dM_whose_102 rfl rfl ?_
      exact xR_iret 103 rfl rfl dM_whose_103
    · refine xR_ic 14 (1 : Int32) dM_whose_14 (by decide) ?_
      refine xR_isn 15 ([(3, .int (1 : Int32)), (0, .ref (xa G 85)), (1, .int v1), (2, .int v2)]) dM_whose_15 rfl (by decide) rfl ?_
      refine xR_ic 16 (0 : Int32) dM_whose_16 (by decide) ?_
      refine xR_is 17 ([(4, .int (0 : Int32)), (3, .int (1 : Int32)), (0, .ref (xa G 85)), (1, .int v1), (2, .int v2)]) dM_whose_17 (by decide) rfl ?_
      exact xR_sub [2, 3, 4, 1, 0] rfl (kM_whose_l19 G z m (fM_whose_l4 m n) ih xfu v1 v2 (1 : Int32) (0 : Int32))
set_option maxRecDepth 100000 in
set_option maxHeartbeats 4000000 in
theorem kM_whose (G : xG)   (z : xM) (m : xM) : ∀ a, fM_whose m  = some a → xCt G yyM_whose [.ref (xa G 85)] (z, m) (some (.int a)) (z, m) := by
  refine xR_ct (em := (emi (z, m))) rfl (Nat.le_of_ble_eq_true rfl) ?_
  show xR G yyM_whose _ 0 [(0, .ref (xa G 85))] [] _ _
  unfold fM_whose
  refine xR_ic 0 (0 : Int32) dM_whose_0 (by decide) ?_
  refine xR_isn 1 ([(1, .int (0 : Int32)), (0, .ref (xa G 85))]) dM_whose_1 rfl (by decide) rfl ?_
  refine xR_ic 2 (0 : Int32) dM_whose_2 (by decide) ?_
  refine xR_isn 3 ([(2, .int (0 : Int32)), (1, .int (0 : Int32)), (0, .ref (xa G 85))]) dM_whose_3 rfl (by decide) rfl ?_
  exact xR_sub [2, 1, 0] rfl (kM_whose_l4 G z m xfu (0 : Int32) (0 : Int32))
theorem dM_greatest_0 : decode (xb yyM_greatest) 0 = .ok (.iconst 0, 1) := by decide +kernel
theorem dM_greatest_1 : decode (xb yyM_greatest) 1 = .ok (.istore_n 2, 1) := by decide +kernel
theorem dM_greatest_2 : decode (xb yyM_greatest) 2 = .ok (.iconst 0, 1) := by decide +kernel
theorem dM_greatest_3 : decode (xb yyM_greatest) 3 = .ok (.istore_n 3, 1) := by decide +kernel
theorem dM_greatest_4 : decode (xb yyM_greatest) 4 = .ok (.iload_n 3, 1) := by decide +kernel
theorem dM_greatest_5 : decode (xb yyM_greatest) 5 = .ok (.bipush 6, 2) := by decide +kernel
theorem dM_greatest_7 : decode (xb yyM_greatest) 7 = .ok (.if_icmp .ge 84, 3) := by decide +kernel
theorem dM_greatest_10 : decode (xb yyM_greatest) 10 = .ok (.iconst 0, 1) := by decide +kernel
theorem dM_greatest_11 : decode (xb yyM_greatest) 11 = .ok (.istore 4, 2) := by decide +kernel
theorem dM_greatest_13 : decode (xb yyM_greatest) 13 = .ok (.iconst 0, 1) := by decide +kernel
theorem dM_greatest_14 : decode (xb yyM_greatest) 14 = .ok (.istore 5, 2) := by decide +kernel
theorem dM_greatest_16 : decode (xb yyM_greatest) 16 = .ok (.iload 5, 2) := by decide +kernel
theorem dM_greatest_18 : decode (xb yyM_greatest) 18 = .ok (.bipush 6, 2) := by decide +kernel
theorem dM_greatest_20 : decode (xb yyM_greatest) 20 = .ok (.if_icmp .ge 52, 3) := by decide +kernel
theorem dM_greatest_23 : decode (xb yyM_greatest) 23 = .ok (.iload 4, 2) := by decide +kernel
theorem dM_greatest_25 : decode (xb yyM_greatest) 25 = .ok (.iload_n 1, 1) := by decide +kernel
theorem dM_greatest_26 : decode (xb yyM_greatest) 26 = .ok (.iload_n 3, 1) := by decide +kernel
theorem dM_greatest_27 : decode (xb yyM_greatest) 27 = .ok (.invokestatic 220, 3) := by decide +kernel
theorem dM_greatest_30 : decode (xb yyM_greatest) 30 = .ok (.ifCond .eq 32, 3) := by decide +kernel
theorem dM_greatest_33 : decode (xb yyM_greatest) 33 = .ok (.iload_n 1, 1) := by decide +kernel
theorem dM_greatest_34 : decode (xb yyM_greatest) 34 = .ok (.iload 5, 2) := by decide +kernel
theorem dM_greatest_36 : decode (xb yyM_greatest) 36 = .ok (.invokestatic 220, 3) := by decide +kernel
theorem dM_greatest_39 : decode (xb yyM_greatest) 39 = .ok (.ifCond .eq 23, 3) := by decide +kernel
theorem dM_greatest_42 : decode (xb yyM_greatest) 42 = .ok (.aload_n 0, 1) := by decide +kernel
theorem dM_greatest_43 : decode (xb yyM_greatest) 43 = .ok (.getfield 33, 3) := by decide +kernel
theorem dM_greatest_46 : decode (xb yyM_greatest) 46 = .ok (.iload_n 3, 1) := by decide +kernel
theorem dM_greatest_47 : decode (xb yyM_greatest) 47 = .ok (.iaload, 1) := by decide +kernel
theorem dM_greatest_48 : decode (xb yyM_greatest) 48 = .ok (.aload_n 0, 1) := by decide +kernel
theorem dM_greatest_49 : decode (xb yyM_greatest) 49 = .ok (.getfield 33, 3) := by decide +kernel
theorem dM_greatest_52 : decode (xb yyM_greatest) 52 = .ok (.iload 5, 2) := by decide +kernel
theorem dM_greatest_54 : decode (xb yyM_greatest) 54 = .ok (.iaload, 1) := by decide +kernel
theorem dM_greatest_55 : decode (xb yyM_greatest) 55 = .ok (.if_icmp .ne 7, 3) := by decide +kernel
theorem dM_greatest_58 : decode (xb yyM_greatest) 58 = .ok (.iconst 1, 1) := by decide +kernel
theorem dM_greatest_59 : decode (xb yyM_greatest) 59 = .ok (.goto 4, 3) := by decide +kernel
theorem dM_greatest_62 : decode (xb yyM_greatest) 62 = .ok (.iconst 0, 1) := by decide +kernel
theorem dM_greatest_63 : decode (xb yyM_greatest) 63 = .ok (.iadd, 1) := by decide +kernel
theorem dM_greatest_64 : decode (xb yyM_greatest) 64 = .ok (.istore 4, 2) := by decide +kernel
theorem dM_greatest_66 : decode (xb yyM_greatest) 66 = .ok (.iinc 5 1, 3) := by decide +kernel
theorem dM_greatest_69 : decode (xb yyM_greatest) 69 = .ok (.goto (-53), 3) := by decide +kernel
theorem dM_greatest_72 : decode (xb yyM_greatest) 72 = .ok (.iload 4, 2) := by decide +kernel
theorem dM_greatest_74 : decode (xb yyM_greatest) 74 = .ok (.iload_n 2, 1) := by decide +kernel
theorem dM_greatest_75 : decode (xb yyM_greatest) 75 = .ok (.if_icmp .le 8, 3) := by decide +kernel
theorem dM_greatest_78 : decode (xb yyM_greatest) 78 = .ok (.iload 4, 2) := by decide +kernel
theorem dM_greatest_80 : decode (xb yyM_greatest) 80 = .ok (.goto 4, 3) := by decide +kernel
theorem dM_greatest_83 : decode (xb yyM_greatest) 83 = .ok (.iload_n 2, 1) := by decide +kernel
theorem dM_greatest_84 : decode (xb yyM_greatest) 84 = .ok (.istore_n 2, 1) := by decide +kernel
theorem dM_greatest_85 : decode (xb yyM_greatest) 85 = .ok (.iinc 3 1, 3) := by decide +kernel
theorem dM_greatest_88 : decode (xb yyM_greatest) 88 = .ok (.goto (-84), 3) := by decide +kernel
theorem dM_greatest_91 : decode (xb yyM_greatest) 91 = .ok (.iload_n 2, 1) := by decide +kernel
theorem dM_greatest_92 : decode (xb yyM_greatest) 92 = .ok (.ireturn, 1) := by decide +kernel
def fM_greatest_b84  (m : xM) (k4 : Int32 → Int32 → Int32 → Option (Int32)) (v1 : Int32) (v3 : Int32) (s0 : Int32) : Option (Int32) := k4 v1 s0 (v3 + 1)
def fM_greatest_b63  (m : xM) (k4 : Int32 → Int32 → Int32 → Option (Int32)) (k16 : Int32 → Int32 → Int32 → Int32 → Int32 → Option (Int32)) (v1 : Int32) (v2 : Int32) (v3 : Int32) (v5 : Int32) (s0 : Int32) (s1 : Int32) : Option (Int32) := k16 v1 v2 v3 (s1 + s0) (v5 + 1)
def fM_greatest_b62  (m : xM) (k4 : Int32 → Int32 → Int32 → Option (Int32)) (k16 : Int32 → Int32 → Int32 → Int32 → Int32 → Option (Int32)) (v1 : Int32) (v2 : Int32) (v3 : Int32) (v5 : Int32) (s0 : Int32) : Option (Int32) := fM_greatest_b63 m k4 k16 v1 v2 v3 v5 (0 : Int32) s0
def fM_greatest_l16  (m : xM) (k4 : Int32 → Int32 → Int32 → Option (Int32)) : Nat → Int32 → Int32 → Int32 → Int32 → Int32 → Option (Int32)
  | 0, _, _, _, _, _ => none
  | n + 1, v1, v2, v3, v4, v5 => (if (6 : Int32) ≤ v5 then (if v4 ≤ v2 then fM_greatest_b84 m k4 v1 v3 v2 else fM_greatest_b84 m k4 v1 v3 v4) else (fM_has v1 v3).bind fun r27 => (if r27 = 0 then fM_greatest_b62 m k4 (fM_greatest_l16 m k4 n) v1 v2 v3 v5 v4 else (fM_has v1 v5).bind fun r36 => (if r36 = 0 then fM_greatest_b62 m k4 (fM_greatest_l16 m k4 n) v1 v2 v3 v5 v4 else xck 6 v3 (xck 6 v5 ((if (m.1 5 v3.toNatClampNeg) = (m.1 5 v5.toNatClampNeg) then fM_greatest_b63 m k4 (fM_greatest_l16 m k4 n) v1 v2 v3 v5 (1 : Int32) v4 else fM_greatest_b62 m k4 (fM_greatest_l16 m k4 n) v1 v2 v3 v5 v4))))))
def fM_greatest_l4  (m : xM) : Nat → Int32 → Int32 → Int32 → Option (Int32)
  | 0, _, _, _ => none
  | n + 1, v1, v2, v3 => (if (6 : Int32) ≤ v3 then some v2 else fM_greatest_l16 m (fM_greatest_l4 m n) xfu v1 v2 v3 (0 : Int32) (0 : Int32))
def fM_greatest  (m : xM) (v1 : Int32) : Option (Int32) := fM_greatest_l4 m xfu v1 (0 : Int32) (0 : Int32)
set_option maxRecDepth 100000 in
set_option maxHeartbeats 4000000 in
theorem kM_greatest_b84 (G : xG)   (z : xM) (m : xM) (k4 : Int32 → Int32 → Int32 → Option (Int32)) (hk4 : ∀ (v1 : Int32) (v2 : Int32) (v3 : Int32), xR G yyM_greatest (emi (z, m)) 4 [(0, .ref (xa G 85)), (1, .int v1), (2, .int v2), (3, .int v3)] [] (z, m) (k4 v1 v2 v3)) (v1 : Int32) (v3 : Int32) (s0 : Int32) : xR G yyM_greatest (emi (z, m)) 84 [(0, .ref (xa G 85)), (1, .int v1), (3, .int v3)] [.int s0] (z, m) (fM_greatest_b84 m k4 v1 v3 s0) := by
  unfold fM_greatest_b84
  refine xR_isn 84 ([(2, .int s0), (0, .ref (xa G 85)), (1, .int v1), (3, .int v3)]) dM_greatest_84 rfl (by decide) rfl ?_
  refine xR_iinc 85 3 (v3 + 1) ([(3, .int (v3 + 1)), (2, .int s0), (0, .ref (xa G 85)), (1, .int v1)]) dM_greatest_85 rfl rfl (by decide) rfl ?_
  refine xR_goto 88 4 dM_greatest_88 (by decide) ?_
  exact xR_sub [2, 3, 1, 0] rfl (hk4 v1 s0 (v3 + 1))
set_option maxRecDepth 100000 in
set_option maxHeartbeats 4000000 in
theorem kM_greatest_b63 (G : xG)   (z : xM) (m : xM) (k4 : Int32 → Int32 → Int32 → Option (Int32)) (k16 : Int32 → Int32 → Int32 → Int32 → Int32 → Option (Int32)) (hk4 : ∀ (v1 : Int32) (v2 : Int32) (v3 : Int32), xR G yyM_greatest (emi (z, m)) 4 [(0, .ref (xa G 85)), (1, .int v1), (2, .int v2), (3, .int v3)] [] (z, m) (k4 v1 v2 v3)) (hk16 : ∀ (v1 : Int32) (v2 : Int32) (v3 : Int32) (v4 : Int32) (v5 : Int32), xR G yyM_greatest (emi (z, m)) 16 [(0, .ref (xa G 85)), (1, .int v1), (2, .int v2), (3, .int v3), (4, .int v4), (5, .int v5)] [] (z, m) (k16 v1 v2 v3 v4 v5)) (v1 : Int32) (v2 : Int32) (v3 : Int32) (v5 : Int32) (s0 : Int32) (s1 : Int32) : xR G yyM_greatest (emi (z, m)) 63 [(0, .ref (xa G 85)), (1, .int v1), (2, .int v2), (3, .int v3), (5, .int v5)] [.int s0, .int s1] (z, m) (fM_greatest_b63 m k4 k16 v1 v2 v3 v5 s0 s1) := by
  unfold fM_greatest_b63
  refine xR_iadd 63 dM_greatest_63 ?_
  refine xR_is 64 ([(4, .int (s1 + s0)), (0, .ref (xa G 85)), (1, .int v1), (2, .int v2), (3, .int v3), (5, .int v5)]) dM_greatest_64 (by decide) rfl ?_
  refine xR_iinc 66 5 (v5 + 1) ([(5, .int (v5 + 1)), (4, .int (s1 + s0)), (0, .ref (xa G 85)), (1, .int v1), (2, .int v2), (3, .int v3)]) dM_greatest_66 rfl rfl (by decide) rfl ?_
  refine xR_goto 69 16 dM_greatest_69 (by decide) ?_
  exact xR_sub [2, 3, 4, 5, 1, 0] rfl (hk16 v1 v2 v3 (s1 + s0) (v5 + 1))
set_option maxRecDepth 100000 in
set_option maxHeartbeats 4000000 in
theorem kM_greatest_b62 (G : xG)   (z : xM) (m : xM) (k4 : Int32 → Int32 → Int32 → Option (Int32)) (k16 : Int32 → Int32 → Int32 → Int32 → Int32 → Option (Int32)) (hk4 : ∀ (v1 : Int32) (v2 : Int32) (v3 : Int32), xR G yyM_greatest (emi (z, m)) 4 [(0, .ref (xa G 85)), (1, .int v1), (2, .int v2), (3, .int v3)] [] (z, m) (k4 v1 v2 v3)) (hk16 : ∀ (v1 : Int32) (v2 : Int32) (v3 : Int32) (v4 : Int32) (v5 : Int32), xR G yyM_greatest (emi (z, m)) 16 [(0, .ref (xa G 85)), (1, .int v1), (2, .int v2), (3, .int v3), (4, .int v4), (5, .int v5)] [] (z, m) (k16 v1 v2 v3 v4 v5)) (v1 : Int32) (v2 : Int32) (v3 : Int32) (v5 : Int32) (s0 : Int32) : xR G yyM_greatest (emi (z, m)) 62 [(0, .ref (xa G 85)), (1, .int v1), (2, .int v2), (3, .int v3), (5, .int v5)] [.int s0] (z, m) (fM_greatest_b62 m k4 k16 v1 v2 v3 v5 s0) := by
  unfold fM_greatest_b62
  refine xR_ic 62 (0 : Int32) dM_greatest_62 (by decide) ?_
  exact kM_greatest_b63 G z m k4 k16 hk4 hk16 v1 v2 v3 v5 (0 : Int32) s0
set_option maxRecDepth 100000 in
set_option maxHeartbeats 4000000 in
theorem kM_greatest_l16 (G : xG)   (z : xM) (m : xM) (k4 : Int32 → Int32 → Int32 → Option (Int32)) (hk4 : ∀ (v1 : Int32) (v2 : Int32) (v3 : Int32), xR G yyM_greatest (emi (z, m)) 4 [(0, .ref (xa G 85)), (1, .int v1), (2, .int v2), (3, .int v3)] [] (z, m) (k4 v1 v2 v3)) : ∀ (n : Nat) (v1 : Int32) (v2 : Int32) (v3 : Int32) (v4 : Int32) (v5 : Int32), xR G yyM_greatest (emi (z, m)) 16 [(0, .ref (xa G 85)), (1, .int v1), (2, .int v2), (3, .int v3), (4, .int v4), (5, .int v5)] [] (z, m) (fM_greatest_l16 m k4 n v1 v2 v3 v4 v5) := by
  intro n
  induction n with
  | zero =>
    intro v1 v2 v3 v4 v5
    rw [fM_greatest_l16]
    exact xR_none
  | succ n ih =>
    intro v1 v2 v3 v4 v5
    rw [fM_greatest_l16]
    refine xR_il 16 5 dM_greatest_16 rfl ?_
    refine xR_bp 18 (6 : Int32) dM_greatest_18 (by decide) ?_
    refine xR_icge 20 72 dM_greatest_20 (by decide) ?_ ?_
    · refine xR_il 72 4 dM_greatest_72 rfl ?_
      refine xR_iln 74 2 dM_greatest_74 rfl rfl ?_
      refine xR_icle 75 83 dM_greatest_75 (by decide) ?_ ?_
      · refine xR_iln 83 2 dM_greatest_83 rfl rfl ?_
        exact xR_sub [0, 1, 3] rfl (kM_greatest_b84 G z m k4 hk4 v1 v3 v2)
      · refine xR_il 78 4 dM_greatest_78 rfl ?_
        refine xR_goto 80 84 dM_greatest_80 (by decide) ?_
        exact xR_sub [0, 1, 3] rfl (kM_greatest_b84 G z m k4 hk4 v1 v3 v4)
    · refine xR_il 23 4 dM_greatest_23 rfl ?_
      refine xR_iln 25 1 dM_greatest_25 rfl rfl ?_
      refine xR_iln 26 3 dM_greatest_26 rfl rfl ?_
      refine xR_callSi 27 cs_M_has ml_RX9_220 ⟨Nat.le_of_ble_eq_true rfl, Nat.le_of_ble_eq_true rfl⟩ [.int v1, .int v3] rfl rfl (Nat.le_of_ble_eq_true rfl) dM_greatest_27 (kM_has G (z, m) v1 v3) (fun r27 => ?_)
      refine xR_ifeq 30 62 dM_greatest_30 (by decide) ?_ ?_
      · exact xR_sub [0, 1, 2, 3, 5] rfl (kM_greatest_b62 G z m k4 (fM_greatest_l16 m k4 n) hk4 ih v1 v2 v3 v5 v4)
      · refine xR_iln 33 1 dM_greatest_33 rfl rfl ?_
        refine xR_il 34 5 dM_greatest_34 rfl ?_
        refine xR_callSi 36 cs_M_has ml_RX9_220 ⟨Nat.le_of_ble_eq_true rfl, Nat.le_of_ble_eq_true rfl⟩ [.int v1, .int v5] rfl rfl (Nat.le_of_ble_eq_true rfl) dM_greatest_36 (kM_has G (z, m) v1 v5) (fun r36 => ?_)
        refine xR_ifeq 39 62 dM_greatest_39 (by decide) ?_ ?_
        · exact xR_sub [0, 1, 2, 3, 5] rfl (kM_greatest_b62 G z m k4 (fM_greatest_l16 m k4 n) hk4 ih v1 v2 v3 v5 v4)
        · refine xR_aln 42 0 dM_greatest_42 rfl rfl ?_
          refine xR_getf 43 xcf7 11 85 (by decide) (by decide) rfl (v := .ref (xa G 91)) rfl fl_RX9_33 dM_greatest_43 ?_
          refine xR_iln 46 3 dM_greatest_46 rfl rfl ?_
          refine xR_iald 47 91 (by decide) rfl dM_greatest_47 ?_
          refine xR_aln 48 0 dM_greatest_48 rfl rfl ?_
          refine xR_getf 49 xcf7 11 85 (by decide) (by decide) rfl (v := .ref (xa G 91)) rfl fl_RX9_33 dM_greatest_49 ?_
          refine xR_il 52 5 dM_greatest_52 rfl ?_
          refine xR_iald 54 91 (by decide) rfl dM_greatest_54 ?_
          refine xR_icne 55 62 dM_greatest_55 (by decide) ?_ ?_
          · exact xR_sub [0, 1, 2, 3, 5] rfl (kM_greatest_b62 G z m k4 (fM_greatest_l16 m k4 n) hk4 ih v1 v2 v3 v5 v4)
          · refine xR_ic 58 (1 : Int32) dM_greatest_58 (by decide) ?_
            refine xR_goto 59 63 dM_greatest_59 (by decide) ?_
            exact xR_sub [0, 1, 2, 3, 5] rfl (kM_greatest_b63 G z m k4 (fM_greatest_l16 m k4 n) hk4 ih v1 v2 v3 v5 (1 : Int32) v4)
set_option maxRecDepth 100000 in
set_option maxHeartbeats 4000000 in
theorem kM_greatest_l4 (G : xG)   (z : xM) (m : xM)   : ∀ (n : Nat) (v1 : Int32) (v2 : Int32) (v3 : Int32), xR G yyM_greatest (emi (z, m)) 4 [(0, .ref (xa G 85)), (1, .int v1), (2, .int v2), (3, .int v3)] [] (z, m) (fM_greatest_l4 m n v1 v2 v3) := by
  intro n
  induction n with
  | zero =>
    intro v1 v2 v3
    rw [fM_greatest_l4]
    exact xR_none
  | succ n ih =>
    intro v1 v2 v3
    rw [fM_greatest_l4]
    refine xR_iln 4 3 dM_greatest_4 rfl rfl ?_
    refine xR_bp 5 (6 : Int32) dM_greatest_5 (by decide) ?_
    refine xR_icge 7 91 dM_greatest_7 (by decide) ?_ ?_
    · refine xR_iln 91 2 dM_greatest_91 rfl rfl ?_
      exact xR_iret 92 rfl rfl dM_greatest_92
    · refine xR_ic 10 (0 : Int32) dM_greatest_10 (by decide) ?_
      refine xR_is 11 ([(4, .int (0 : Int32)), (0, .ref (xa G 85)), (1, .int v1), (2, .int v2), (3, .int v3)]) dM_greatest_11 (by decide) rfl ?_
      refine xR_ic 13 (0 : Int32) dM_greatest_13 (by decide) ?_
      refine xR_is 14 ([(5, .int (0 : Int32)), (4, .int (0 : Int32)), (0, .ref (xa G 85)), (1, .int v1), (2, .int v2), (3, .int v3)]) dM_greatest_14 (by decide) rfl ?_
      exact xR_sub [2, 3, 4, 5, 1, 0] rfl (kM_greatest_l16 G z m (fM_greatest_l4 m n) ih xfu v1 v2 v3 (0 : Int32) (0 : Int32))
set_option maxRecDepth 100000 in
set_option maxHeartbeats 4000000 in
theorem kM_greatest (G : xG)   (z : xM) (m : xM) (v1 : Int32) : ∀ a, fM_greatest m v1 = some a → xCt G yyM_greatest [.ref (xa G 85), .int v1] (z, m) (some (.int a)) (z, m) := by
  refine xR_ct (em := (emi (z, m))) rfl (Nat.le_of_ble_eq_true rfl) ?_
  show xR G yyM_greatest _ 0 [(0, .ref (xa G 85)), (1, .int v1)] [] _ _
  unfold fM_greatest
  refine xR_ic 0 (0 : Int32) dM_greatest_0 (by decide) ?_
  refine xR_isn 1 ([(2, .int (0 : Int32)), (0, .ref (xa G 85)), (1, .int v1)]) dM_greatest_1 rfl (by decide) rfl ?_
  refine xR_ic 2 (0 : Int32) dM_greatest_2 (by decide) ?_
  refine xR_isn 3 ([(3, .int (0 : Int32)), (2, .int (0 : Int32)), (0, .ref (xa G 85)), (1, .int v1)]) dM_greatest_3 rfl (by decide) rfl ?_
  exact xR_sub [2, 3, 1, 0] rfl (kM_greatest_l4 G z m xfu v1 (0 : Int32) (0 : Int32))
theorem dM_tells_0 : decode (xb yyM_tells) 0 = .ok (.aload_n 0, 1) := by decide +kernel
theorem dM_tells_1 : decode (xb yyM_tells) 1 = .ok (.invokevirtual 235, 3) := by decide +kernel
theorem dM_tells_4 : decode (xb yyM_tells) 4 = .ok (.istore_n 1, 1) := by decide +kernel
theorem dM_tells_5 : decode (xb yyM_tells) 5 = .ok (.iconst (-1), 1) := by decide +kernel
theorem dM_tells_6 : decode (xb yyM_tells) 6 = .ok (.istore_n 2, 1) := by decide +kernel
theorem dM_tells_7 : decode (xb yyM_tells) 7 = .ok (.ldc 223, 2) := by decide +kernel
theorem dM_tells_9 : decode (xb yyM_tells) 9 = .ok (.istore_n 3, 1) := by decide +kernel
theorem dM_tells_10 : decode (xb yyM_tells) 10 = .ok (.iconst 0, 1) := by decide +kernel
theorem dM_tells_11 : decode (xb yyM_tells) 11 = .ok (.istore 4, 2) := by decide +kernel
theorem dM_tells_13 : decode (xb yyM_tells) 13 = .ok (.iload 4, 2) := by decide +kernel
theorem dM_tells_15 : decode (xb yyM_tells) 15 = .ok (.iconst 4, 1) := by decide +kernel
theorem dM_tells_16 : decode (xb yyM_tells) 16 = .ok (.if_icmp .ge 82, 3) := by decide +kernel
theorem dM_tells_19 : decode (xb yyM_tells) 19 = .ok (.iload_n 1, 1) := by decide +kernel
theorem dM_tells_20 : decode (xb yyM_tells) 20 = .ok (.ifCond .le 78, 3) := by decide +kernel
theorem dM_tells_23 : decode (xb yyM_tells) 23 = .ok (.iconst 0, 1) := by decide +kernel
theorem dM_tells_24 : decode (xb yyM_tells) 24 = .ok (.istore 5, 2) := by decide +kernel
theorem dM_tells_26 : decode (xb yyM_tells) 26 = .ok (.iload 5, 2) := by decide +kernel
theorem dM_tells_28 : decode (xb yyM_tells) 28 = .ok (.aload_n 0, 1) := by decide +kernel
theorem dM_tells_29 : decode (xb yyM_tells) 29 = .ok (.getfield 7, 3) := by decide +kernel
theorem dM_tells_32 : decode (xb yyM_tells) 32 = .ok (.iconst 0, 1) := by decide +kernel
theorem dM_tells_33 : decode (xb yyM_tells) 33 = .ok (.iaload, 1) := by decide +kernel
theorem dM_tells_34 : decode (xb yyM_tells) 34 = .ok (.if_icmp .ge 25, 3) := by decide +kernel
theorem dM_tells_37 : decode (xb yyM_tells) 37 = .ok (.aload_n 0, 1) := by decide +kernel
theorem dM_tells_38 : decode (xb yyM_tells) 38 = .ok (.getfield 33, 3) := by decide +kernel
theorem dM_tells_41 : decode (xb yyM_tells) 41 = .ok (.iload 5, 2) := by decide +kernel
theorem dM_tells_43 : decode (xb yyM_tells) 43 = .ok (.aload_n 0, 1) := by decide +kernel
theorem dM_tells_44 : decode (xb yyM_tells) 44 = .ok (.iconst 0, 1) := by decide +kernel
theorem dM_tells_45 : decode (xb yyM_tells) 45 = .ok (.iload 5, 2) := by decide +kernel
theorem dM_tells_47 : decode (xb yyM_tells) 47 = .ok (.iload 4, 2) := by decide +kernel
theorem dM_tells_49 : decode (xb yyM_tells) 49 = .ok (.invokevirtual 199, 3) := by decide +kernel
theorem dM_tells_52 : decode (xb yyM_tells) 52 = .ok (.iastore, 1) := by decide +kernel
theorem dM_tells_53 : decode (xb yyM_tells) 53 = .ok (.iinc 5 1, 3) := by decide +kernel
theorem dM_tells_56 : decode (xb yyM_tells) 56 = .ok (.goto (-30), 3) := by decide +kernel
theorem dM_tells_59 : decode (xb yyM_tells) 59 = .ok (.aload_n 0, 1) := by decide +kernel
theorem dM_tells_60 : decode (xb yyM_tells) 60 = .ok (.iload_n 1, 1) := by decide +kernel
theorem dM_tells_61 : decode (xb yyM_tells) 61 = .ok (.invokevirtual 238, 3) := by decide +kernel
theorem dM_tells_64 : decode (xb yyM_tells) 64 = .ok (.istore 5, 2) := by decide +kernel
theorem dM_tells_66 : decode (xb yyM_tells) 66 = .ok (.iload 5, 2) := by decide +kernel
theorem dM_tells_68 : decode (xb yyM_tells) 68 = .ok (.iload_n 3, 1) := by decide +kernel
theorem dM_tells_69 : decode (xb yyM_tells) 69 = .ok (.if_icmp .ge 8, 3) := by decide +kernel
theorem dM_tells_72 : decode (xb yyM_tells) 72 = .ok (.iload 4, 2) := by decide +kernel
theorem dM_tells_74 : decode (xb yyM_tells) 74 = .ok (.goto 4, 3) := by decide +kernel
theorem dM_tells_77 : decode (xb yyM_tells) 77 = .ok (.iload_n 2, 1) := by decide +kernel
theorem dM_tells_78 : decode (xb yyM_tells) 78 = .ok (.istore_n 2, 1) := by decide +kernel
theorem dM_tells_79 : decode (xb yyM_tells) 79 = .ok (.iload 5, 2) := by decide +kernel
theorem dM_tells_81 : decode (xb yyM_tells) 81 = .ok (.iload_n 3, 1) := by decide +kernel
theorem dM_tells_82 : decode (xb yyM_tells) 82 = .ok (.if_icmp .ge 8, 3) := by decide +kernel
theorem dM_tells_85 : decode (xb yyM_tells) 85 = .ok (.iload 5, 2) := by decide +kernel
theorem dM_tells_87 : decode (xb yyM_tells) 87 = .ok (.goto 4, 3) := by decide +kernel
theorem dM_tells_90 : decode (xb yyM_tells) 90 = .ok (.iload_n 3, 1) := by decide +kernel
theorem dM_tells_91 : decode (xb yyM_tells) 91 = .ok (.istore_n 3, 1) := by decide +kernel
theorem dM_tells_92 : decode (xb yyM_tells) 92 = .ok (.iinc 4 1, 3) := by decide +kernel
theorem dM_tells_95 : decode (xb yyM_tells) 95 = .ok (.goto (-82), 3) := by decide +kernel
theorem dM_tells_98 : decode (xb yyM_tells) 98 = .ok (.iload_n 2, 1) := by decide +kernel
theorem dM_tells_99 : decode (xb yyM_tells) 99 = .ok (.ireturn, 1) := by decide +kernel
def fM_tells_b91 (k13 : Int32 → Int32 → Int32 → Int32 → xM → Option (Int32 × xM)) (v1 : Int32) (v2 : Int32) (v4 : Int32) (s0 : Int32) (m : xM) : Option (Int32 × xM) := k13 v1 v2 s0 (v4 + 1) m
def fM_tells_b78 (k13 : Int32 → Int32 → Int32 → Int32 → xM → Option (Int32 × xM)) (v1 : Int32) (v3 : Int32) (v4 : Int32) (v5 : Int32) (s0 : Int32) (m : xM) : Option (Int32 × xM) := (if v3 ≤ v5 then fM_tells_b91 k13 v1 s0 v4 v3 m else fM_tells_b91 k13 v1 s0 v4 v5 m)
def fM_tells_l26 (k13 : Int32 → Int32 → Int32 → Int32 → xM → Option (Int32 × xM)) : Nat → Int32 → Int32 → Int32 → Int32 → Int32 → xM → Option (Int32 × xM)
  | 0, _, _, _, _, _, _ => none
  | n + 1, v1, v2, v3, v4, v5, m => xck 1752 (0 : Int32) ((if (m.1 0 (0 : Int32).toNatClampNeg) ≤ v5 then (fM_greatest m v1).bind fun r61 => (if v3 ≤ r61 then fM_tells_b78 k13 v1 v3 v4 r61 v2 m else fM_tells_b78 k13 v1 v3 v4 r61 v4 m) else (fM_soundsIn m (0 : Int32) v5 v4).bind fun r49 => xck 6 v5 (fM_tells_l26 k13 n v1 v2 v3 v4 (v5 + 1) (xset m 5 v5.toNatClampNeg r49))))
def fM_tells_l13  : Nat → Int32 → Int32 → Int32 → Int32 → xM → Option (Int32 × xM)
  | 0, _, _, _, _, _ => none
  | n + 1, v1, v2, v3, v4, m => (if (4 : Int32) ≤ v4 then some (v2, m) else (if v1 ≤ 0 then some (v2, m) else fM_tells_l26 (fM_tells_l13 n) xfu v1 v2 v3 v4 (0 : Int32) m))
def fM_tells  (m : xM) : Option (Int32 × xM) := (fM_whose m).bind fun r1 => fM_tells_l13 xfu r1 (-1 : Int32) (1000000 : Int32) (0 : Int32) m
set_option maxRecDepth 100000 in
set_option maxHeartbeats 4000000 in
theorem kM_tells_b91 (G : xG)   (z : xM)  (k13 : Int32 → Int32 → Int32 → Int32 → xM → Option (Int32 × xM)) (hk13 : ∀ (v1 : Int32) (v2 : Int32) (v3 : Int32) (v4 : Int32) (m : xM), xR G yyM_tells (emim z) 13 [(0, .ref (xa G 85)), (1, .int v1), (2, .int v2), (3, .int v3), (4, .int v4)] [] (z, m) (k13 v1 v2 v3 v4 m)) (v1 : Int32) (v2 : Int32) (v4 : Int32) (s0 : Int32) (m : xM) : xR G yyM_tells (emim z) 91 [(0, .ref (xa G 85)), (1, .int v1), (2, .int v2), (4, .int v4)] [.int s0] (z, m) (fM_tells_b91 k13 v1 v2 v4 s0 m) := by
  unfold fM_tells_b91
  refine xR_isn 91 ([(3, .int s0), (0, .ref (xa G 85)), (1, .int v1), (2, .int v2), (4, .int v4)]) dM_tells_91 rfl (by decide) rfl ?_
  refine xR_iinc 92 4 (v4 + 1) ([(4, .int (v4 + 1)), (3, .int s0), (0, .ref (xa G 85)), (1, .int v1), (2, .int v2)]) dM_tells_92 rfl rfl (by decide) rfl ?_
  refine xR_goto 95 13 dM_tells_95 (by decide) ?_
  exact xR_sub [2, 3, 4, 1, 0] rfl (hk13 v1 v2 s0 (v4 + 1) m)
set_option maxRecDepth 100000 in
set_option maxHeartbeats 4000000 in
theorem kM_tells_b78 (G : xG)   (z : xM)  (k13 : Int32 → Int32 → Int32 → Int32 → xM → Option (Int32 × xM)) (hk13 : ∀ (v1 : Int32) (v2 : Int32) (v3 : Int32) (v4 : Int32) (m : xM), xR G yyM_tells (emim z) 13 [(0, .ref (xa G 85)), (1, .int v1), (2, .int v2), (3, .int v3), (4, .int v4)] [] (z, m) (k13 v1 v2 v3 v4 m)) (v1 : Int32) (v3 : Int32) (v4 : Int32) (v5 : Int32) (s0 : Int32) (m : xM) : xR G yyM_tells (emim z) 78 [(0, .ref (xa G 85)), (1, .int v1), (3, .int v3), (4, .int v4), (5, .int v5)] [.int s0] (z, m) (fM_tells_b78 k13 v1 v3 v4 v5 s0 m) := by
  unfold fM_tells_b78
  refine xR_isn 78 ([(2, .int s0), (0, .ref (xa G 85)), (1, .int v1), (3, .int v3), (4, .int v4), (5, .int v5)]) dM_tells_78 rfl (by decide) rfl ?_
  refine xR_il 79 5 dM_tells_79 rfl ?_
  refine xR_iln 81 3 dM_tells_81 rfl rfl ?_
  refine xR_icge 82 90 dM_tells_82 (by decide) ?_ ?_
  · refine xR_iln 90 3 dM_tells_90 rfl rfl ?_
    exact xR_sub [1, 2, 0, 4] rfl (kM_tells_b91 G z k13 hk13 v1 s0 v4 v3 m)
  · refine xR_il 85 5 dM_tells_85 rfl ?_
    refine xR_goto 87 91 dM_tells_87 (by decide) ?_
    exact xR_sub [1, 2, 0, 4] rfl (kM_tells_b91 G z k13 hk13 v1 s0 v4 v5 m)
set_option maxRecDepth 100000 in
set_option maxHeartbeats 4000000 in
theorem kM_tells_l26 (G : xG)   (z : xM)  (k13 : Int32 → Int32 → Int32 → Int32 → xM → Option (Int32 × xM)) (hk13 : ∀ (v1 : Int32) (v2 : Int32) (v3 : Int32) (v4 : Int32) (m : xM), xR G yyM_tells (emim z) 13 [(0, .ref (xa G 85)), (1, .int v1), (2, .int v2), (3, .int v3), (4, .int v4)] [] (z, m) (k13 v1 v2 v3 v4 m)) : ∀ (n : Nat) (v1 : Int32) (v2 : Int32) (v3 : Int32) (v4 : Int32) (v5 : Int32) (m : xM), xR G yyM_tells (emim z) 26 [(0, .ref (xa G 85)), (1, .int v1), (2, .int v2), (3, .int v3), (4, .int v4), (5, .int v5)] [] (z, m) (fM_tells_l26 k13 n v1 v2 v3 v4 v5 m) := by
  intro n
  induction n with
  | zero =>
    intro v1 v2 v3 v4 v5 m
    rw [fM_tells_l26]
    exact xR_none
  | succ n ih =>
    intro v1 v2 v3 v4 v5 m
    rw [fM_tells_l26]
    refine xR_il 26 5 dM_tells_26 rfl ?_
    refine xR_aln 28 0 dM_tells_28 rfl rfl ?_
    refine xR_getf 29 xcf7 0 85 (by decide) (by decide) rfl (v := .ref (xa G 86)) rfl fl_RX9_7 dM_tells_29 ?_
    refine xR_ic 32 (0 : Int32) dM_tells_32 (by decide) ?_
    refine xR_iald 33 86 (by decide) rfl dM_tells_33 ?_
    refine xR_icge 34 59 dM_tells_34 (by decide) ?_ ?_
    · refine xR_aln 59 0 dM_tells_59 rfl rfl ?_
      refine xR_iln 60 1 dM_tells_60 rfl rfl ?_
      refine xR_callVi 61 cv_M_greatest ml_RX9_238 ⟨Nat.le_of_ble_eq_true rfl, Nat.le_of_ble_eq_true rfl⟩ xcf7 rfl 85 (by decide) rfl [.int v1] rfl rfl (Nat.le_of_ble_eq_true rfl) dM_tells_61 (kM_greatest G z m v1) (fun r61 => ?_)
      refine xR_is 64 ([(5, .int r61), (0, .ref (xa G 85)), (1, .int v1), (2, .int v2), (3, .int v3), (4, .int v4)]) dM_tells_64 (by decide) rfl ?_
      refine xR_il 66 0 dM_tells_66 rfl ?_
      refine xR_iln 68 4 dM_tells_68 rfl rfl ?_
      refine xR_icge 69 77 dM_tells_69 (by decide) ?_ ?_
      · refine xR_iln 77 3 dM_tells_77 rfl rfl ?_
        exact xR_sub [1, 2, 4, 5, 0] rfl (kM_tells_b78 G z k13 hk13 v1 v3 v4 r61 v2 m)
      · refine xR_il 72 5 dM_tells_72 rfl ?_
        refine xR_goto 74 78 dM_tells_74 (by decide) ?_
        exact xR_sub [1, 2, 4, 5, 0] rfl (kM_tells_b78 G z k13 hk13 v1 v3 v4 r61 v4 m)
    · refine xR_aln 37 0 dM_tells_37 rfl rfl ?_
      refine xR_getf 38 xcf7 11 85 (by decide) (by decide) rfl (v := .ref (xa G 91)) rfl fl_RX9_33 dM_tells_38 ?_
      refine xR_il 41 5 dM_tells_41 rfl ?_
      refine xR_aln 43 0 dM_tells_43 rfl rfl ?_
      refine xR_ic 44 (0 : Int32) dM_tells_44 (by decide) ?_
      refine xR_il 45 5 dM_tells_45 rfl ?_
      refine xR_il 47 4 dM_tells_47 rfl ?_
      refine xR_callVi 49 cv_M_soundsIn ml_RX9_199 ⟨Nat.le_of_ble_eq_true rfl, Nat.le_of_ble_eq_true rfl⟩ xcf7 rfl 85 (by decide) rfl [.int (0 : Int32), .int v5, .int v4] rfl rfl (Nat.le_of_ble_eq_true rfl) dM_tells_49 (kM_soundsIn G z m (0 : Int32) v5 v4) (fun r49 => ?_)
      refine xR_iast 52 91 (by decide) rfl (z, (xset m 5 v5.toNatClampNeg r49)) xW_m5 dM_tells_52 ?_
      refine xR_iinc 53 5 (v5 + 1) ([(5, .int (v5 + 1)), (0, .ref (xa G 85)), (1, .int v1), (2, .int v2), (3, .int v3), (4, .int v4)]) dM_tells_53 rfl rfl (by decide) rfl ?_
      refine xR_goto 56 26 dM_tells_56 (by decide) ?_
      exact xR_sub [1, 2, 3, 4, 5, 0] rfl (ih v1 v2 v3 v4 (v5 + 1) (xset m 5 v5.toNatClampNeg r49))
set_option maxRecDepth 100000 in
set_option maxHeartbeats 4000000 in
theorem kM_tells_l13 (G : xG)   (z : xM)    : ∀ (n : Nat) (v1 : Int32) (v2 : Int32) (v3 : Int32) (v4 : Int32) (m : xM), xR G yyM_tells (emim z) 13 [(0, .ref (xa G 85)), (1, .int v1), (2, .int v2), (3, .int v3), (4, .int v4)] [] (z, m) (fM_tells_l13  n v1 v2 v3 v4 m) := by
  intro n
  induction n with
  | zero =>
    intro v1 v2 v3 v4 m
    rw [fM_tells_l13]
    exact xR_none
  | succ n ih =>
    intro v1 v2 v3 v4 m
    rw [fM_tells_l13]
    refine xR_il 13 4 dM_tells_13 rfl ?_
    refine xR_ic 15 (4 : Int32) dM_tells_15 (by decide) ?_
    refine xR_icge 16 98 dM_tells_16 (by decide) ?_ ?_
    · refine xR_iln 98 2 dM_tells_98 rfl rfl ?_
      exact xR_iret 99 rfl rfl dM_tells_99
    · refine xR_iln 19 1 dM_tells_19 rfl rfl ?_
      refine xR_ifle 20 98 dM_tells_20 (by decide) ?_ ?_
      · refine xR_iln 98 2 dM_tells_98 rfl rfl ?_
        exact xR_iret 99 rfl rfl dM_tells_99
      · refine xR_ic 23 (0 : Int32) dM_tells_23 (by decide) ?_
        refine xR_is 24 ([(5, .int (0 : Int32)), (0, .ref (xa G 85)), (1, .int v1), (2, .int v2), (3, .int v3), (4, .int v4)]) dM_tells_24 (by decide) rfl ?_
        exact xR_sub [1, 2, 3, 4, 5, 0] rfl (kM_tells_l26 G z (fM_tells_l13 n) ih xfu v1 v2 v3 v4 (0 : Int32) m)
set_option maxRecDepth 100000 in
set_option maxHeartbeats 4000000 in
theorem kM_tells (G : xG)   (z : xM) (m : xM) : ∀ a, fM_tells  m = some a → xCt G yyM_tells [.ref (xa G 85)] (z, m) (some (.int a.1)) (z, a.2) := by
  refine xR_ct (em := (emim z)) rfl (Nat.le_of_ble_eq_true rfl) ?_
  show xR G yyM_tells _ 0 [(0, .ref (xa G 85))] [] _ _
  unfold fM_tells
  refine xR_aln 0 0 dM_tells_0 rfl rfl ?_
  refine xR_callVi 1 cv_M_whose ml_RX9_235 ⟨Nat.le_of_ble_eq_true rfl, Nat.le_of_ble_eq_true rfl⟩ xcf7 rfl 85 (by decide) rfl [] rfl rfl (Nat.le_of_ble_eq_true rfl) dM_tells_1 (kM_whose G z m) (fun r1 => ?_)
  refine xR_isn 4 ([(1, .int r1), (0, .ref (xa G 85))]) dM_tells_4 rfl (by decide) rfl ?_
  refine xR_ic 5 (-1 : Int32) dM_tells_5 (by decide) ?_
  refine xR_isn 6 ([(2, .int (-1 : Int32)), (1, .int r1), (0, .ref (xa G 85))]) dM_tells_6 rfl (by decide) rfl ?_
  refine xR_ldc 7 ci_RX9_223 dM_tells_7 ?_
  refine xR_isn 9 ([(3, .int (1000000 : Int32)), (2, .int (-1 : Int32)), (1, .int r1), (0, .ref (xa G 85))]) dM_tells_9 rfl (by decide) rfl ?_
  refine xR_ic 10 (0 : Int32) dM_tells_10 (by decide) ?_
  refine xR_is 11 ([(4, .int (0 : Int32)), (3, .int (1000000 : Int32)), (2, .int (-1 : Int32)), (1, .int r1), (0, .ref (xa G 85))]) dM_tells_11 (by decide) rfl ?_
  exact xR_sub [4, 3, 2, 1, 0] rfl (kM_tells_l13 G z xfu r1 (-1 : Int32) (1000000 : Int32) (0 : Int32) m)
theorem dM_note_0 : decode (xb yyM_note) 0 = .ok (.aload_n 0, 1) := by decide +kernel
theorem dM_note_1 : decode (xb yyM_note) 1 = .ok (.iload_n 1, 1) := by decide +kernel
theorem dM_note_2 : decode (xb yyM_note) 2 = .ok (.invokevirtual 84, 3) := by decide +kernel
theorem dM_note_5 : decode (xb yyM_note) 5 = .ok (.ifCond .eq 48, 3) := by decide +kernel
theorem dM_note_8 : decode (xb yyM_note) 8 = .ok (.iload_n 2, 1) := by decide +kernel
theorem dM_note_9 : decode (xb yyM_note) 9 = .ok (.i2l, 1) := by decide +kernel
theorem dM_note_10 : decode (xb yyM_note) 10 = .ok (.lconst 0, 1) := by decide +kernel
theorem dM_note_11 : decode (xb yyM_note) 11 = .ok (.ldc2_w 72, 3) := by decide +kernel
theorem dM_note_14 : decode (xb yyM_note) 14 = .ok (.invokestatic 40, 3) := by decide +kernel
theorem dM_note_17 : decode (xb yyM_note) 17 = .ok (.ifCond .eq 36, 3) := by decide +kernel
theorem dM_note_20 : decode (xb yyM_note) 20 = .ok (.iload_n 3, 1) := by decide +kernel
theorem dM_note_21 : decode (xb yyM_note) 21 = .ok (.i2l, 1) := by decide +kernel
theorem dM_note_22 : decode (xb yyM_note) 22 = .ok (.lconst 0, 1) := by decide +kernel
theorem dM_note_23 : decode (xb yyM_note) 23 = .ok (.ldc2_w 74, 3) := by decide +kernel
theorem dM_note_26 : decode (xb yyM_note) 26 = .ok (.invokestatic 40, 3) := by decide +kernel
theorem dM_note_29 : decode (xb yyM_note) 29 = .ok (.ifCond .eq 24, 3) := by decide +kernel
theorem dM_note_32 : decode (xb yyM_note) 32 = .ok (.iload 4, 2) := by decide +kernel
theorem dM_note_34 : decode (xb yyM_note) 34 = .ok (.invokestatic 206, 3) := by decide +kernel
theorem dM_note_37 : decode (xb yyM_note) 37 = .ok (.ifCond .eq 16, 3) := by decide +kernel
theorem dM_note_40 : decode (xb yyM_note) 40 = .ok (.iload 5, 2) := by decide +kernel
theorem dM_note_42 : decode (xb yyM_note) 42 = .ok (.i2l, 1) := by decide +kernel
theorem dM_note_43 : decode (xb yyM_note) 43 = .ok (.lconst 0, 1) := by decide +kernel
theorem dM_note_44 : decode (xb yyM_note) 44 = .ok (.ldc2_w 169, 3) := by decide +kernel
theorem dM_note_47 : decode (xb yyM_note) 47 = .ok (.invokestatic 40, 3) := by decide +kernel
theorem dM_note_50 : decode (xb yyM_note) 50 = .ok (.ifCond .ne 10, 3) := by decide +kernel
theorem dM_note_53 : decode (xb yyM_note) 53 = .ok (.aload_n 0, 1) := by decide +kernel
theorem dM_note_54 : decode (xb yyM_note) 54 = .ok (.bipush (-2), 2) := by decide +kernel
theorem dM_note_56 : decode (xb yyM_note) 56 = .ok (.invokevirtual 66, 3) := by decide +kernel
theorem dM_note_59 : decode (xb yyM_note) 59 = .ok (.ireturn, 1) := by decide +kernel
theorem dM_note_60 : decode (xb yyM_note) 60 = .ok (.aload_n 0, 1) := by decide +kernel
theorem dM_note_61 : decode (xb yyM_note) 61 = .ok (.getfield 7, 3) := by decide +kernel
theorem dM_note_64 : decode (xb yyM_note) 64 = .ok (.bipush 61, 2) := by decide +kernel
theorem dM_note_66 : decode (xb yyM_note) 66 = .ok (.iaload, 1) := by decide +kernel
theorem dM_note_67 : decode (xb yyM_note) 67 = .ok (.bipush 6, 2) := by decide +kernel
theorem dM_note_69 : decode (xb yyM_note) 69 = .ok (.if_icmp .ne 8, 3) := by decide +kernel
theorem dM_note_72 : decode (xb yyM_note) 72 = .ok (.aload_n 0, 1) := by decide +kernel
theorem dM_note_73 : decode (xb yyM_note) 73 = .ok (.invokevirtual 76, 3) := by decide +kernel
theorem dM_note_76 : decode (xb yyM_note) 76 = .ok (.ireturn, 1) := by decide +kernel
theorem dM_note_77 : decode (xb yyM_note) 77 = .ok (.bipush 62, 2) := by decide +kernel
theorem dM_note_79 : decode (xb yyM_note) 79 = .ok (.iconst 5, 1) := by decide +kernel
theorem dM_note_80 : decode (xb yyM_note) 80 = .ok (.aload_n 0, 1) := by decide +kernel
theorem dM_note_81 : decode (xb yyM_note) 81 = .ok (.getfield 7, 3) := by decide +kernel
theorem dM_note_84 : decode (xb yyM_note) 84 = .ok (.bipush 61, 2) := by decide +kernel
theorem dM_note_86 : decode (xb yyM_note) 86 = .ok (.iaload, 1) := by decide +kernel
theorem dM_note_87 : decode (xb yyM_note) 87 = .ok (.imul, 1) := by decide +kernel
theorem dM_note_88 : decode (xb yyM_note) 88 = .ok (.iadd, 1) := by decide +kernel
theorem dM_note_89 : decode (xb yyM_note) 89 = .ok (.istore 6, 2) := by decide +kernel
theorem dM_note_91 : decode (xb yyM_note) 91 = .ok (.aload_n 0, 1) := by decide +kernel
theorem dM_note_92 : decode (xb yyM_note) 92 = .ok (.getfield 7, 3) := by decide +kernel
theorem dM_note_95 : decode (xb yyM_note) 95 = .ok (.iload 6, 2) := by decide +kernel
theorem dM_note_97 : decode (xb yyM_note) 97 = .ok (.iload_n 1, 1) := by decide +kernel
theorem dM_note_98 : decode (xb yyM_note) 98 = .ok (.iastore, 1) := by decide +kernel
theorem dM_note_99 : decode (xb yyM_note) 99 = .ok (.aload_n 0, 1) := by decide +kernel
theorem dM_note_100 : decode (xb yyM_note) 100 = .ok (.getfield 7, 3) := by decide +kernel
theorem dM_note_103 : decode (xb yyM_note) 103 = .ok (.iload 6, 2) := by decide +kernel
theorem dM_note_105 : decode (xb yyM_note) 105 = .ok (.iconst 1, 1) := by decide +kernel
theorem dM_note_106 : decode (xb yyM_note) 106 = .ok (.iadd, 1) := by decide +kernel
theorem dM_note_107 : decode (xb yyM_note) 107 = .ok (.iload_n 2, 1) := by decide +kernel
theorem dM_note_108 : decode (xb yyM_note) 108 = .ok (.iastore, 1) := by decide +kernel
theorem dM_note_109 : decode (xb yyM_note) 109 = .ok (.aload_n 0, 1) := by decide +kernel
theorem dM_note_110 : decode (xb yyM_note) 110 = .ok (.getfield 7, 3) := by decide +kernel
theorem dM_note_113 : decode (xb yyM_note) 113 = .ok (.iload 6, 2) := by decide +kernel
theorem dM_note_115 : decode (xb yyM_note) 115 = .ok (.iconst 2, 1) := by decide +kernel
theorem dM_note_116 : decode (xb yyM_note) 116 = .ok (.iadd, 1) := by decide +kernel
theorem dM_note_117 : decode (xb yyM_note) 117 = .ok (.iload_n 3, 1) := by decide +kernel
theorem dM_note_118 : decode (xb yyM_note) 118 = .ok (.iastore, 1) := by decide +kernel
theorem dM_note_119 : decode (xb yyM_note) 119 = .ok (.aload_n 0, 1) := by decide +kernel
theorem dM_note_120 : decode (xb yyM_note) 120 = .ok (.getfield 7, 3) := by decide +kernel
theorem dM_note_123 : decode (xb yyM_note) 123 = .ok (.iload 6, 2) := by decide +kernel
theorem dM_note_125 : decode (xb yyM_note) 125 = .ok (.iconst 3, 1) := by decide +kernel
theorem dM_note_126 : decode (xb yyM_note) 126 = .ok (.iadd, 1) := by decide +kernel
theorem dM_note_127 : decode (xb yyM_note) 127 = .ok (.iload 4, 2) := by decide +kernel
theorem dM_note_129 : decode (xb yyM_note) 129 = .ok (.iastore, 1) := by decide +kernel
theorem dM_note_130 : decode (xb yyM_note) 130 = .ok (.aload_n 0, 1) := by decide +kernel
theorem dM_note_131 : decode (xb yyM_note) 131 = .ok (.getfield 7, 3) := by decide +kernel
theorem dM_note_134 : decode (xb yyM_note) 134 = .ok (.iload 6, 2) := by decide +kernel
theorem dM_note_136 : decode (xb yyM_note) 136 = .ok (.iconst 4, 1) := by decide +kernel
theorem dM_note_137 : decode (xb yyM_note) 137 = .ok (.iadd, 1) := by decide +kernel
theorem dM_note_138 : decode (xb yyM_note) 138 = .ok (.iload 5, 2) := by decide +kernel
theorem dM_note_140 : decode (xb yyM_note) 140 = .ok (.iastore, 1) := by decide +kernel
theorem dM_note_141 : decode (xb yyM_note) 141 = .ok (.aload_n 0, 1) := by decide +kernel
theorem dM_note_142 : decode (xb yyM_note) 142 = .ok (.getfield 7, 3) := by decide +kernel
theorem dM_note_145 : decode (xb yyM_note) 145 = .ok (.bipush 61, 2) := by decide +kernel
theorem dM_note_147 : decode (xb yyM_note) 147 = .ok (.dup2, 1) := by decide +kernel
theorem dM_note_148 : decode (xb yyM_note) 148 = .ok (.iaload, 1) := by decide +kernel
theorem dM_note_149 : decode (xb yyM_note) 149 = .ok (.iconst 1, 1) := by decide +kernel
theorem dM_note_150 : decode (xb yyM_note) 150 = .ok (.iadd, 1) := by decide +kernel
theorem dM_note_151 : decode (xb yyM_note) 151 = .ok (.iastore, 1) := by decide +kernel
theorem dM_note_152 : decode (xb yyM_note) 152 = .ok (.aload_n 0, 1) := by decide +kernel
theorem dM_note_153 : decode (xb yyM_note) 153 = .ok (.getfield 7, 3) := by decide +kernel
theorem dM_note_156 : decode (xb yyM_note) 156 = .ok (.bipush 61, 2) := by decide +kernel
theorem dM_note_158 : decode (xb yyM_note) 158 = .ok (.iaload, 1) := by decide +kernel
theorem dM_note_159 : decode (xb yyM_note) 159 = .ok (.ireturn, 1) := by decide +kernel
def fM_note  (v1 : Int32) (v2 : Int32) (v3 : Int32) (v4 : Int32) (v5 : Int32) (m : xM) : Option (Int32 × xM) := (fM_isBoard m v1).bind fun r2 => (if r2 = 0 then (fM_bad (-2 : Int32) m).bind fun r56 => some (r56.1, r56.2) else (fM_in ((v2).toInt64) (0 : Int64) (99 : Int64)).bind fun r14 => (if r14 = 0 then (fM_bad (-2 : Int32) m).bind fun r56 => some (r56.1, r56.2) else (fM_in ((v3).toInt64) (0 : Int64) (9 : Int64)).bind fun r26 => (if r26 = 0 then (fM_bad (-2 : Int32) m).bind fun r56 => some (r56.1, r56.2) else (fM_isString v4).bind fun r34 => (if r34 = 0 then (fM_bad (-2 : Int32) m).bind fun r56 => some (r56.1, r56.2) else (fM_in ((v5).toInt64) (0 : Int64) (60 : Int64)).bind fun r47 => (if r47 = 0 then (fM_bad (-2 : Int32) m).bind fun r56 => some (r56.1, r56.2) else xck 1752 (61 : Int32) ((if (m.1 0 (61 : Int32).toNatClampNeg) = (6 : Int32) then (fM_full m).bind fun r73 => some (r73.1, r73.2) else xck 1752 (61 : Int32) (xck 1752 ((62 : Int32) + ((5 : Int32) * (m.1 0 (61 : Int32).toNatClampNeg))) (xck 1752 (((62 : Int32) + ((5 : Int32) * (m.1 0 (61 : Int32).toNatClampNeg))) + (1 : Int32)) (xck 1752 (((62 : Int32) + ((5 : Int32) * (m.1 0 (61 : Int32).toNatClampNeg))) + (2 : Int32)) (xck 1752 (((62 : Int32) + ((5 : Int32) * (m.1 0 (61 : Int32).toNatClampNeg))) + (3 : Int32)) (xck 1752 (((62 : Int32) + ((5 : Int32) * (m.1 0 (61 : Int32).toNatClampNeg))) + (4 : Int32)) (xck 1752 (61 : Int32) (xck 1752 (61 : Int32) (xck 1752 (61 : Int32) (some (((xset (xset (xset (xset (xset (xset m 0 ((62 : Int32) + ((5 : Int32) * (m.1 0 (61 : Int32).toNatClampNeg))).toNatClampNeg v1) 0 (((62 : Int32) + ((5 : Int32) * (m.1 0 (61 : Int32).toNatClampNeg))) + (1 : Int32)).toNatClampNeg v2) 0 (((62 : Int32) + ((5 : Int32) * (m.1 0 (61 : Int32).toNatClampNeg))) + (2 : Int32)).toNatClampNeg v3) 0 (((62 : Int32) + ((5 : Int32) * (m.1 0 (61 : Int32).toNatClampNeg))) + (3 : Int32)).toNatClampNeg v4) 0 (((62 : Int32) + ((5 : Int32) * (m.1 0 (61 : Int32).toNatClampNeg))) + (4 : Int32)).toNatClampNeg v5) 0 (61 : Int32).toNatClampNeg (((xset (xset (xset (xset (xset m 0 ((62 : Int32) + ((5 : Int32) * (m.1 0 (61 : Int32).toNatClampNeg))).toNatClampNeg v1) 0 (((62 : Int32) + ((5 : Int32) * (m.1 0 (61 : Int32).toNatClampNeg))) + (1 : Int32)).toNatClampNeg v2) 0 (((62 : Int32) + ((5 : Int32) * (m.1 0 (61 : Int32).toNatClampNeg))) + (2 : Int32)).toNatClampNeg v3) 0 (((62 : Int32) + ((5 : Int32) * (m.1 0 (61 : Int32).toNatClampNeg))) + (3 : Int32)).toNatClampNeg v4) 0 (((62 : Int32) + ((5 : Int32) * (m.1 0 (61 : Int32).toNatClampNeg))) + (4 : Int32)).toNatClampNeg v5).1 0 (61 : Int32).toNatClampNeg) + (1 : Int32))).1 0 (61 : Int32).toNatClampNeg), (xset (xset (xset (xset (xset (xset m 0 ((62 : Int32) + ((5 : Int32) * (m.1 0 (61 : Int32).toNatClampNeg))).toNatClampNeg v1) 0 (((62 : Int32) + ((5 : Int32) * (m.1 0 (61 : Int32).toNatClampNeg))) + (1 : Int32)).toNatClampNeg v2) 0 (((62 : Int32) + ((5 : Int32) * (m.1 0 (61 : Int32).toNatClampNeg))) + (2 : Int32)).toNatClampNeg v3) 0 (((62 : Int32) + ((5 : Int32) * (m.1 0 (61 : Int32).toNatClampNeg))) + (3 : Int32)).toNatClampNeg v4) 0 (((62 : Int32) + ((5 : Int32) * (m.1 0 (61 : Int32).toNatClampNeg))) + (4 : Int32)).toNatClampNeg v5) 0 (61 : Int32).toNatClampNeg (((xset (xset (xset (xset (xset m 0 ((62 : Int32) + ((5 : Int32) * (m.1 0 (61 : Int32).toNatClampNeg))).toNatClampNeg v1) 0 (((62 : Int32) + ((5 : Int32) * (m.1 0 (61 : Int32).toNatClampNeg))) + (1 : Int32)).toNatClampNeg v2) 0 (((62 : Int32) + ((5 : Int32) * (m.1 0 (61 : Int32).toNatClampNeg))) + (2 : Int32)).toNatClampNeg v3) 0 (((62 : Int32) + ((5 : Int32) * (m.1 0 (61 : Int32).toNatClampNeg))) + (3 : Int32)).toNatClampNeg v4) 0 (((62 : Int32) + ((5 : Int32) * (m.1 0 (61 : Int32).toNatClampNeg))) + (4 : Int32)).toNatClampNeg v5).1 0 (61 : Int32).toNatClampNeg) + (1 : Int32))))))))))))))))))))
set_option maxRecDepth 100000 in
set_option maxHeartbeats 4000000 in
theorem kM_note (G : xG)   (z : xM) (m : xM) (v1 : Int32) (v2 : Int32) (v3 : Int32) (v4 : Int32) (v5 : Int32) : ∀ a, fM_note  v1 v2 v3 v4 v5 m = some a → xCt G yyM_note [.ref (xa G 85), .int v1, .int v2, .int v3, .int v4, .int v5] (z, m) (some (.int a.1)) (z, a.2) := by
  refine xR_ct (em := (emim z)) rfl (Nat.le_of_ble_eq_true rfl) ?_
  show xR G yyM_note _ 0 [(0, .ref (xa G 85)), (1, .int v1), (2, .int v2), (3, .int v3), (4, .int v4), (5, .int v5)] [] _ _
  unfold fM_note
  refine xR_aln 0 0 dM_note_0 rfl rfl ?_
  refine xR_iln 1 1 dM_note_1 rfl rfl ?_
  refine xR_callVi 2 cv_M_isBoard ml_RX9_84 ⟨Nat.le_of_ble_eq_true rfl, Nat.le_of_ble_eq_true rfl⟩ xcf7 rfl 85 (by decide) rfl [.int v1] rfl rfl (Nat.le_of_ble_eq_true rfl) dM_note_2 (kM_isBoard G z m v1) (fun r2 => ?_)
  refine xR_ifeq 5 53 dM_note_5 (by decide) ?_ ?_
  · refine xR_aln 53 0 dM_note_53 rfl rfl ?_
    refine xR_bp 54 (-2 : Int32) dM_note_54 (by decide) ?_
    refine xR_callVim 56 cv_M_bad ml_RX9_66 ⟨Nat.le_of_ble_eq_true rfl, Nat.le_of_ble_eq_true rfl⟩ xcf7 rfl 85 (by decide) rfl [.int (-2 : Int32)] rfl rfl (Nat.le_of_ble_eq_true rfl) dM_note_56 (kM_bad G z m (-2 : Int32)) (fun r56 => ?_)
    exact xR_iret 59 rfl rfl dM_note_59
  · refine xR_iln 8 2 dM_note_8 rfl rfl ?_
    refine xR_i2l 9 dM_note_9 ?_
    refine xR_lc 10 (0 : Int64) dM_note_10 (by decide) ?_
    refine xR_ldc2 11 cl_RX9_72 dM_note_11 ?_
    refine xR_callSi 14 cs_M_in ml_RX9_40 ⟨Nat.le_of_ble_eq_true rfl, Nat.le_of_ble_eq_true rfl⟩ [.long ((v2).toInt64), .long (0 : Int64), .long (99 : Int64)] rfl rfl (Nat.le_of_ble_eq_true rfl) dM_note_14 (kM_in G (z, m) ((v2).toInt64) (0 : Int64) (99 : Int64)) (fun r14 => ?_)
    refine xR_ifeq 17 53 dM_note_17 (by decide) ?_ ?_
    · refine xR_aln 53 0 dM_note_53 rfl rfl ?_
      refine xR_bp 54 (-2 : Int32) dM_note_54 (by decide) ?_
      refine xR_callVim 56 cv_M_bad ml_RX9_66 ⟨Nat.le_of_ble_eq_true rfl, Nat.le_of_ble_eq_true rfl⟩ xcf7 rfl 85 (by decide) rfl [.int (-2 : Int32)] rfl rfl (Nat.le_of_ble_eq_true rfl) dM_note_56 (kM_bad G z m (-2 : Int32)) (fun r56 => ?_)
      exact xR_iret 59 rfl rfl dM_note_59
    · refine xR_iln 20 3 dM_note_20 rfl rfl ?_
      refine xR_i2l 21 dM_note_21 ?_
      refine xR_lc 22 (0 : Int64) dM_note_22 (by decide) ?_
      refine xR_ldc2 23 cl_RX9_74 dM_note_23 ?_
      refine xR_callSi 26 cs_M_in ml_RX9_40 ⟨Nat.le_of_ble_eq_true rfl, Nat.le_of_ble_eq_true rfl⟩ [.long ((v3).toInt64), .long (0 : Int64), .long (9 : Int64)] rfl rfl (Nat.le_of_ble_eq_true rfl) dM_note_26 (kM_in G (z, m) ((v3).toInt64) (0 : Int64) (9 : Int64)) (fun r26 => ?_)
      refine xR_ifeq 29 53 dM_note_29 (by decide) ?_ ?_
      · refine xR_aln 53 0 dM_note_53 rfl rfl ?_
        refine xR_bp 54 (-2 : Int32) dM_note_54 (by decide) ?_
        refine xR_callVim 56 cv_M_bad ml_RX9_66 ⟨Nat.le_of_ble_eq_true rfl, Nat.le_of_ble_eq_true rfl⟩ xcf7 rfl 85 (by decide) rfl [.int (-2 : Int32)] rfl rfl (Nat.le_of_ble_eq_true rfl) dM_note_56 (kM_bad G z m (-2 : Int32)) (fun r56 => ?_)
        exact xR_iret 59 rfl rfl dM_note_59
      · refine xR_il 32 4 dM_note_32 rfl ?_
        refine xR_callSi 34 cs_M_isString ml_RX9_206 ⟨Nat.le_of_ble_eq_true rfl, Nat.le_of_ble_eq_true rfl⟩ [.int v4] rfl rfl (Nat.le_of_ble_eq_true rfl) dM_note_34 (kM_isString G (z, m) v4) (fun r34 => ?_)
        refine xR_ifeq 37 53 dM_note_37 (by decide) ?_ ?_
        · refine xR_aln 53 0 dM_note_53 rfl rfl ?_
          refine xR_bp 54 (-2 : Int32) dM_note_54 (by decide) ?_
          refine xR_callVim 56 cv_M_bad ml_RX9_66 ⟨Nat.le_of_ble_eq_true rfl, Nat.le_of_ble_eq_true rfl⟩ xcf7 rfl 85 (by decide) rfl [.int (-2 : Int32)] rfl rfl (Nat.le_of_ble_eq_true rfl) dM_note_56 (kM_bad G z m (-2 : Int32)) (fun r56 => ?_)
          exact xR_iret 59 rfl rfl dM_note_59
        · refine xR_il 40 5 dM_note_40 rfl ?_
          refine xR_i2l 42 dM_note_42 ?_
          refine xR_lc 43 (0 : Int64) dM_note_43 (by decide) ?_
          refine xR_ldc2 44 cl_RX9_169 dM_note_44 ?_
          refine xR_callSi 47 cs_M_in ml_RX9_40 ⟨Nat.le_of_ble_eq_true rfl, Nat.le_of_ble_eq_true rfl⟩ [.long ((v5).toInt64), .long (0 : Int64), .long (60 : Int64)] rfl rfl (Nat.le_of_ble_eq_true rfl) dM_note_47 (kM_in G (z, m) ((v5).toInt64) (0 : Int64) (60 : Int64)) (fun r47 => ?_)
          refine xR_ifne 50 60 dM_note_50 (by decide) ?_ ?_
          · refine xR_aln 60 0 dM_note_60 rfl rfl ?_
            refine xR_getf 61 xcf7 0 85 (by decide) (by decide) rfl (v := .ref (xa G 86)) rfl fl_RX9_7 dM_note_61 ?_
            refine xR_bp 64 (61 : Int32) dM_note_64 (by decide) ?_
            refine xR_iald 66 86 (by decide) rfl dM_note_66 ?_
            refine xR_bp 67 (6 : Int32) dM_note_67 (by decide) ?_
            refine xR_icne 69 77 dM_note_69 (by decide) ?_ ?_
            · refine xR_bp 77 (62 : Int32) dM_note_77 (by decide) ?_
              refine xR_ic 79 (5 : Int32) dM_note_79 (by decide) ?_
              refine xR_aln 80 0 dM_note_80 rfl rfl ?_
              refine xR_getf 81 xcf7 0 85 (by decide) (by decide) rfl (v := .ref (xa G 86)) rfl fl_RX9_7 dM_note_81 ?_
              refine xR_bp 84 (61 : Int32) dM_note_84 (by decide) ?_
              refine xR_iald 86 86 (by decide) rfl dM_note_86 ?_
              refine xR_imul 87 dM_note_87 ?_
              refine xR_iadd 88 dM_note_88 ?_
              refine xR_is 89 ([(6, .int ((62 : Int32) + ((5 : Int32) * (m.1 0 (61 : Int32).toNatClampNeg)))), (0, .ref (xa G 85)), (1, .int v1), (2, .int v2), (3, .int v3), (4, .int v4), (5, .int v5)]) dM_note_89 (by decide) rfl ?_
              refine xR_aln 91 1 dM_note_91 rfl rfl ?_
              refine xR_getf 92 xcf7 0 85 (by decide) (by decide) rfl (v := .ref (xa G 86)) rfl fl_RX9_7 dM_note_92 ?_
              refine xR_il 95 0 dM_note_95 rfl ?_
              refine xR_iln 97 2 dM_note_97 rfl rfl ?_
              refine xR_iast 98 86 (by decide) rfl (z, (xset m 0 ((62 : Int32) + ((5 : Int32) * (m.1 0 (61 : Int32).toNatClampNeg))).toNatClampNeg v1)) xW_m0 dM_note_98 ?_
              refine xR_aln 99 1 dM_note_99 rfl rfl ?_
              refine xR_getf 100 xcf7 0 85 (by decide) (by decide) rfl (v := .ref (xa G 86)) rfl fl_RX9_7 dM_note_100 ?_
              refine xR_il 103 0 dM_note_103 rfl ?_
              refine xR_ic 105 (1 : Int32) dM_note_105 (by decide) ?_
              refine xR_iadd 106 dM_note_106 ?_
              refine xR_iln 107 3 dM_note_107 rfl rfl ?_
              refine xR_iast 108 86 (by decide) rfl (z, (xset (xset m 0 ((62 : Int32) + ((5 : Int32) * (m.1 0 (61 : Int32).toNatClampNeg))).toNatClampNeg v1) 0 (((62 : Int32) + ((5 : Int32) * (m.1 0 (61 : Int32).toNatClampNeg))) + (1 : Int32)).toNatClampNeg v2)) xW_m0 dM_note_108 ?_
              refine xR_aln 109 1 dM_note_109 rfl rfl ?_
              refine xR_getf 110 xcf7 0 85 (by decide) (by decide) rfl (v := .ref (xa G 86)) rfl fl_RX9_7 dM_note_110 ?_
              refine xR_il 113 0 dM_note_113 rfl ?_
              refine xR_ic 115 (2 : Int32) dM_note_115 (by decide) ?_
              refine xR_iadd 116 dM_note_116 ?_
              refine xR_iln 117 4 dM_note_117 rfl rfl ?_
              refine xR_iast 118 86 (by decide) rfl (z, (xset (xset (xset m 0 ((62 : Int32) + ((5 : Int32) * (m.1 0 (61 : Int32).toNatClampNeg))).toNatClampNeg v1) 0 (((62 : Int32) + ((5 : Int32) * (m.1 0 (61 : Int32).toNatClampNeg))) + (1 : Int32)).toNatClampNeg v2) 0 (((62 : Int32) + ((5 : Int32) * (m.1 0 (61 : Int32).toNatClampNeg))) + (2 : Int32)).toNatClampNeg v3)) xW_m0 dM_note_118 ?_
              refine xR_aln 119 1 dM_note_119 rfl rfl ?_
              refine xR_getf 120 xcf7 0 85 (by decide) (by decide) rfl (v := .ref (xa G 86)) rfl fl_RX9_7 dM_note_120 ?_
              refine xR_il 123 0 dM_note_123 rfl ?_
              refine xR_ic 125 (3 : Int32) dM_note_125 (by decide) ?_
              refine xR_iadd 126 dM_note_126 ?_
              refine xR_il 127 5 dM_note_127 rfl ?_
              refine xR_iast 129 86 (by decide) rfl (z, (xset (xset (xset (xset m 0 ((62 : Int32) + ((5 : Int32) * (m.1 0 (61 : Int32).toNatClampNeg))).toNatClampNeg v1) 0 (((62 : Int32) + ((5 : Int32) * (m.1 0 (61 : Int32).toNatClampNeg))) + (1 : Int32)).toNatClampNeg v2) 0 (((62 : Int32) + ((5 : Int32) * (m.1 0 (61 : Int32).toNatClampNeg))) + (2 : Int32)).toNatClampNeg v3) 0 (((62 : Int32) + ((5 : Int32) * (m.1 0 (61 : Int32).toNatClampNeg))) + (3 : Int32)).toNatClampNeg v4)) xW_m0 dM_note_129 ?_
              refine xR_aln 130 1 dM_note_130 rfl rfl ?_
              refine xR_getf 131 xcf7 0 85 (by decide) (by decide) rfl (v := .ref (xa G 86)) rfl fl_RX9_7 dM_note_131 ?_
              refine xR_il 134 0 dM_note_134 rfl ?_
              refine xR_ic 136 (4 : Int32) dM_note_136 (by decide) ?_
              refine xR_iadd 137 dM_note_137 ?_
              refine xR_il 138 6 dM_note_138 rfl ?_
              refine xR_iast 140 86 (by decide) rfl (z, (xset (xset (xset (xset (xset m 0 ((62 : Int32) + ((5 : Int32) * (m.1 0 (61 : Int32).toNatClampNeg))).toNatClampNeg v1) 0 (((62 : Int32) + ((5 : Int32) * (m.1 0 (61 : Int32).toNatClampNeg))) + (1 : Int32)).toNatClampNeg v2) 0 (((62 : Int32) + ((5 : Int32) * (m.1 0 (61 : Int32).toNatClampNeg))) + (2 : Int32)).toNatClampNeg v3) 0 (((62 : Int32) + ((5 : Int32) * (m.1 0 (61 : Int32).toNatClampNeg))) + (3 : Int32)).toNatClampNeg v4) 0 (((62 : Int32) + ((5 : Int32) * (m.1 0 (61 : Int32).toNatClampNeg))) + (4 : Int32)).toNatClampNeg v5)) xW_m0 dM_note_140 ?_
              refine xR_aln 141 1 dM_note_141 rfl rfl ?_
              refine xR_getf 142 xcf7 0 85 (by decide) (by decide) rfl (v := .ref (xa G 86)) rfl fl_RX9_7 dM_note_142 ?_
              refine xR_bp 145 (61 : Int32) dM_note_145 (by decide) ?_
              refine xR_dup2 147 dM_note_147 rfl rfl ?_
              refine xR_iald 148 86 (by decide) rfl dM_note_148 ?_
              refine xR_ic 149 (1 : Int32) dM_note_149 (by decide) ?_
              refine xR_iadd 150 dM_note_150 ?_
              refine xR_iast 151 86 (by decide) rfl (z, (xset (xset (xset (xset (xset (xset m 0 ((62 : Int32) + ((5 : Int32) * (m.1 0 (61 : Int32).toNatClampNeg))).toNatClampNeg v1) 0 (((62 : Int32) + ((5 : Int32) * (m.1 0 (61 : Int32).toNatClampNeg))) + (1 : Int32)).toNatClampNeg v2) 0 (((62 : Int32) + ((5 : Int32) * (m.1 0 (61 : Int32).toNatClampNeg))) + (2 : Int32)).toNatClampNeg v3) 0 (((62 : Int32) + ((5 : Int32) * (m.1 0 (61 : Int32).toNatClampNeg))) + (3 : Int32)).toNatClampNeg v4) 0 (((62 : Int32) + ((5 : Int32) * (m.1 0 (61 : Int32).toNatClampNeg))) + (4 : Int32)).toNatClampNeg v5) 0 (61 : Int32).toNatClampNeg (((xset (xset (xset (xset (xset m 0 ((62 : Int32) + ((5 : Int32) * (m.1 0 (61 : Int32).toNatClampNeg))).toNatClampNeg v1) 0 (((62 : Int32) + ((5 : Int32) * (m.1 0 (61 : Int32).toNatClampNeg))) + (1 : Int32)).toNatClampNeg v2) 0 (((62 : Int32) + ((5 : Int32) * (m.1 0 (61 : Int32).toNatClampNeg))) + (2 : Int32)).toNatClampNeg v3) 0 (((62 : Int32) + ((5 : Int32) * (m.1 0 (61 : Int32).toNatClampNeg))) + (3 : Int32)).toNatClampNeg v4) 0 (((62 : Int32) + ((5 : Int32) * (m.1 0 (61 : Int32).toNatClampNeg))) + (4 : Int32)).toNatClampNeg v5).1 0 (61 : Int32).toNatClampNeg) + (1 : Int32)))) xW_m0 dM_note_151 ?_
              refine xR_aln 152 1 dM_note_152 rfl rfl ?_
              refine xR_getf 153 xcf7 0 85 (by decide) (by decide) rfl (v := .ref (xa G 86)) rfl fl_RX9_7 dM_note_153 ?_
              refine xR_bp 156 (61 : Int32) dM_note_156 (by decide) ?_
              refine xR_iald 158 86 (by decide) rfl dM_note_158 ?_
              exact xR_iret 159 rfl rfl dM_note_159
            · refine xR_aln 72 0 dM_note_72 rfl rfl ?_
              refine xR_callVim 73 cv_M_full ml_RX9_76 ⟨Nat.le_of_ble_eq_true rfl, Nat.le_of_ble_eq_true rfl⟩ xcf7 rfl 85 (by decide) rfl [] rfl rfl (Nat.le_of_ble_eq_true rfl) dM_note_73 (kM_full G z m) (fun r73 => ?_)
              exact xR_iret 76 rfl rfl dM_note_76
          · refine xR_aln 53 0 dM_note_53 rfl rfl ?_
            refine xR_bp 54 (-2 : Int32) dM_note_54 (by decide) ?_
            refine xR_callVim 56 cv_M_bad ml_RX9_66 ⟨Nat.le_of_ble_eq_true rfl, Nat.le_of_ble_eq_true rfl⟩ xcf7 rfl 85 (by decide) rfl [.int (-2 : Int32)] rfl rfl (Nat.le_of_ble_eq_true rfl) dM_note_56 (kM_bad G z m (-2 : Int32)) (fun r56 => ?_)
            exact xR_iret 59 rfl rfl dM_note_59
theorem dM_mark_0 : decode (xb yyM_mark) 0 = .ok (.aload_n 0, 1) := by decide +kernel
theorem dM_mark_1 : decode (xb yyM_mark) 1 = .ok (.iload_n 1, 1) := by decide +kernel
theorem dM_mark_2 : decode (xb yyM_mark) 2 = .ok (.invokevirtual 177, 3) := by decide +kernel
theorem dM_mark_5 : decode (xb yyM_mark) 5 = .ok (.ifCond .eq 61, 3) := by decide +kernel
theorem dM_mark_8 : decode (xb yyM_mark) 8 = .ok (.iload_n 2, 1) := by decide +kernel
theorem dM_mark_9 : decode (xb yyM_mark) 9 = .ok (.i2l, 1) := by decide +kernel
theorem dM_mark_10 : decode (xb yyM_mark) 10 = .ok (.lconst 0, 1) := by decide +kernel
theorem dM_mark_11 : decode (xb yyM_mark) 11 = .ok (.ldc2_w 215, 3) := by decide +kernel
theorem dM_mark_14 : decode (xb yyM_mark) 14 = .ok (.invokestatic 40, 3) := by decide +kernel
theorem dM_mark_17 : decode (xb yyM_mark) 17 = .ok (.ifCond .eq 49, 3) := by decide +kernel
theorem dM_mark_20 : decode (xb yyM_mark) 20 = .ok (.iload_n 3, 1) := by decide +kernel
theorem dM_mark_21 : decode (xb yyM_mark) 21 = .ok (.i2l, 1) := by decide +kernel
theorem dM_mark_22 : decode (xb yyM_mark) 22 = .ok (.lconst 0, 1) := by decide +kernel
theorem dM_mark_23 : decode (xb yyM_mark) 23 = .ok (.ldc2_w 64, 3) := by decide +kernel
theorem dM_mark_26 : decode (xb yyM_mark) 26 = .ok (.invokestatic 40, 3) := by decide +kernel
theorem dM_mark_29 : decode (xb yyM_mark) 29 = .ok (.ifCond .eq 37, 3) := by decide +kernel
theorem dM_mark_32 : decode (xb yyM_mark) 32 = .ok (.iload 4, 2) := by decide +kernel
theorem dM_mark_34 : decode (xb yyM_mark) 34 = .ok (.i2l, 1) := by decide +kernel
theorem dM_mark_35 : decode (xb yyM_mark) 35 = .ok (.lconst 0, 1) := by decide +kernel
theorem dM_mark_36 : decode (xb yyM_mark) 36 = .ok (.ldc2_w 64, 3) := by decide +kernel
theorem dM_mark_39 : decode (xb yyM_mark) 39 = .ok (.invokestatic 40, 3) := by decide +kernel
theorem dM_mark_42 : decode (xb yyM_mark) 42 = .ok (.ifCond .eq 24, 3) := by decide +kernel
theorem dM_mark_45 : decode (xb yyM_mark) 45 = .ok (.iload 5, 2) := by decide +kernel
theorem dM_mark_47 : decode (xb yyM_mark) 47 = .ok (.invokestatic 206, 3) := by decide +kernel
theorem dM_mark_50 : decode (xb yyM_mark) 50 = .ok (.ifCond .eq 16, 3) := by decide +kernel
theorem dM_mark_53 : decode (xb yyM_mark) 53 = .ok (.iload 6, 2) := by decide +kernel
theorem dM_mark_55 : decode (xb yyM_mark) 55 = .ok (.i2l, 1) := by decide +kernel
theorem dM_mark_56 : decode (xb yyM_mark) 56 = .ok (.lconst 0, 1) := by decide +kernel
theorem dM_mark_57 : decode (xb yyM_mark) 57 = .ok (.ldc2_w 241, 3) := by decide +kernel
theorem dM_mark_60 : decode (xb yyM_mark) 60 = .ok (.invokestatic 40, 3) := by decide +kernel
theorem dM_mark_63 : decode (xb yyM_mark) 63 = .ok (.ifCond .ne 10, 3) := by decide +kernel
theorem dM_mark_66 : decode (xb yyM_mark) 66 = .ok (.aload_n 0, 1) := by decide +kernel
theorem dM_mark_67 : decode (xb yyM_mark) 67 = .ok (.bipush (-2), 2) := by decide +kernel
theorem dM_mark_69 : decode (xb yyM_mark) 69 = .ok (.invokevirtual 66, 3) := by decide +kernel
theorem dM_mark_72 : decode (xb yyM_mark) 72 = .ok (.ireturn, 1) := by decide +kernel
theorem dM_mark_73 : decode (xb yyM_mark) 73 = .ok (.aload_n 0, 1) := by decide +kernel
theorem dM_mark_74 : decode (xb yyM_mark) 74 = .ok (.getfield 7, 3) := by decide +kernel
theorem dM_mark_77 : decode (xb yyM_mark) 77 = .ok (.bipush 92, 2) := by decide +kernel
theorem dM_mark_79 : decode (xb yyM_mark) 79 = .ok (.iaload, 1) := by decide +kernel
theorem dM_mark_80 : decode (xb yyM_mark) 80 = .ok (.bipush 6, 2) := by decide +kernel
theorem dM_mark_82 : decode (xb yyM_mark) 82 = .ok (.if_icmp .ne 8, 3) := by decide +kernel
theorem dM_mark_85 : decode (xb yyM_mark) 85 = .ok (.aload_n 0, 1) := by decide +kernel
theorem dM_mark_86 : decode (xb yyM_mark) 86 = .ok (.invokevirtual 76, 3) := by decide +kernel
theorem dM_mark_89 : decode (xb yyM_mark) 89 = .ok (.ireturn, 1) := by decide +kernel
theorem dM_mark_90 : decode (xb yyM_mark) 90 = .ok (.bipush 93, 2) := by decide +kernel
theorem dM_mark_92 : decode (xb yyM_mark) 92 = .ok (.bipush 6, 2) := by decide +kernel
theorem dM_mark_94 : decode (xb yyM_mark) 94 = .ok (.aload_n 0, 1) := by decide +kernel
theorem dM_mark_95 : decode (xb yyM_mark) 95 = .ok (.getfield 7, 3) := by decide +kernel
theorem dM_mark_98 : decode (xb yyM_mark) 98 = .ok (.bipush 92, 2) := by decide +kernel
theorem dM_mark_100 : decode (xb yyM_mark) 100 = .ok (.iaload, 1) := by decide +kernel
theorem dM_mark_101 : decode (xb yyM_mark) 101 = .ok (.imul, 1) := by decide +kernel
theorem dM_mark_102 : decode (xb yyM_mark) 102 = .ok (.iadd, 1) := by decide +kernel
theorem dM_mark_103 : decode (xb yyM_mark) 103 = .ok (.istore 7, 2) := by decide +kernel
theorem dM_mark_105 : decode (xb yyM_mark) 105 = .ok (.aload_n 0, 1) := by decide +kernel
theorem dM_mark_106 : decode (xb yyM_mark) 106 = .ok (.getfield 7, 3) := by decide +kernel
theorem dM_mark_109 : decode (xb yyM_mark) 109 = .ok (.iload 7, 2) := by decide +kernel
theorem dM_mark_111 : decode (xb yyM_mark) 111 = .ok (.iload_n 1, 1) := by decide +kernel
theorem dM_mark_112 : decode (xb yyM_mark) 112 = .ok (.iastore, 1) := by decide +kernel
theorem dM_mark_113 : decode (xb yyM_mark) 113 = .ok (.aload_n 0, 1) := by decide +kernel
theorem dM_mark_114 : decode (xb yyM_mark) 114 = .ok (.getfield 7, 3) := by decide +kernel
theorem dM_mark_117 : decode (xb yyM_mark) 117 = .ok (.iload 7, 2) := by decide +kernel
theorem dM_mark_119 : decode (xb yyM_mark) 119 = .ok (.iconst 1, 1) := by decide +kernel
theorem dM_mark_120 : decode (xb yyM_mark) 120 = .ok (.iadd, 1) := by decide +kernel
theorem dM_mark_121 : decode (xb yyM_mark) 121 = .ok (.iload_n 2, 1) := by decide +kernel
theorem dM_mark_122 : decode (xb yyM_mark) 122 = .ok (.iastore, 1) := by decide +kernel
theorem dM_mark_123 : decode (xb yyM_mark) 123 = .ok (.aload_n 0, 1) := by decide +kernel
theorem dM_mark_124 : decode (xb yyM_mark) 124 = .ok (.getfield 7, 3) := by decide +kernel
theorem dM_mark_127 : decode (xb yyM_mark) 127 = .ok (.iload 7, 2) := by decide +kernel
theorem dM_mark_129 : decode (xb yyM_mark) 129 = .ok (.iconst 2, 1) := by decide +kernel
theorem dM_mark_130 : decode (xb yyM_mark) 130 = .ok (.iadd, 1) := by decide +kernel
theorem dM_mark_131 : decode (xb yyM_mark) 131 = .ok (.iload_n 3, 1) := by decide +kernel
theorem dM_mark_132 : decode (xb yyM_mark) 132 = .ok (.iastore, 1) := by decide +kernel
theorem dM_mark_133 : decode (xb yyM_mark) 133 = .ok (.aload_n 0, 1) := by decide +kernel
theorem dM_mark_134 : decode (xb yyM_mark) 134 = .ok (.getfield 7, 3) := by decide +kernel
theorem dM_mark_137 : decode (xb yyM_mark) 137 = .ok (.iload 7, 2) := by decide +kernel
theorem dM_mark_139 : decode (xb yyM_mark) 139 = .ok (.iconst 3, 1) := by decide +kernel
theorem dM_mark_140 : decode (xb yyM_mark) 140 = .ok (.iadd, 1) := by decide +kernel
theorem dM_mark_141 : decode (xb yyM_mark) 141 = .ok (.iload 4, 2) := by decide +kernel
theorem dM_mark_143 : decode (xb yyM_mark) 143 = .ok (.iastore, 1) := by decide +kernel
theorem dM_mark_144 : decode (xb yyM_mark) 144 = .ok (.aload_n 0, 1) := by decide +kernel
theorem dM_mark_145 : decode (xb yyM_mark) 145 = .ok (.getfield 7, 3) := by decide +kernel
theorem dM_mark_148 : decode (xb yyM_mark) 148 = .ok (.iload 7, 2) := by decide +kernel
theorem dM_mark_150 : decode (xb yyM_mark) 150 = .ok (.iconst 4, 1) := by decide +kernel
theorem dM_mark_151 : decode (xb yyM_mark) 151 = .ok (.iadd, 1) := by decide +kernel
theorem dM_mark_152 : decode (xb yyM_mark) 152 = .ok (.iload 5, 2) := by decide +kernel
theorem dM_mark_154 : decode (xb yyM_mark) 154 = .ok (.iastore, 1) := by decide +kernel
theorem dM_mark_155 : decode (xb yyM_mark) 155 = .ok (.aload_n 0, 1) := by decide +kernel
theorem dM_mark_156 : decode (xb yyM_mark) 156 = .ok (.getfield 7, 3) := by decide +kernel
theorem dM_mark_159 : decode (xb yyM_mark) 159 = .ok (.iload 7, 2) := by decide +kernel
theorem dM_mark_161 : decode (xb yyM_mark) 161 = .ok (.iconst 5, 1) := by decide +kernel
theorem dM_mark_162 : decode (xb yyM_mark) 162 = .ok (.iadd, 1) := by decide +kernel
theorem dM_mark_163 : decode (xb yyM_mark) 163 = .ok (.iload 6, 2) := by decide +kernel
theorem dM_mark_165 : decode (xb yyM_mark) 165 = .ok (.iastore, 1) := by decide +kernel
theorem dM_mark_166 : decode (xb yyM_mark) 166 = .ok (.aload_n 0, 1) := by decide +kernel
theorem dM_mark_167 : decode (xb yyM_mark) 167 = .ok (.getfield 7, 3) := by decide +kernel
theorem dM_mark_170 : decode (xb yyM_mark) 170 = .ok (.bipush 92, 2) := by decide +kernel
theorem dM_mark_172 : decode (xb yyM_mark) 172 = .ok (.dup2, 1) := by decide +kernel
theorem dM_mark_173 : decode (xb yyM_mark) 173 = .ok (.iaload, 1) := by decide +kernel
theorem dM_mark_174 : decode (xb yyM_mark) 174 = .ok (.iconst 1, 1) := by decide +kernel
theorem dM_mark_175 : decode (xb yyM_mark) 175 = .ok (.iadd, 1) := by decide +kernel
theorem dM_mark_176 : decode (xb yyM_mark) 176 = .ok (.iastore, 1) := by decide +kernel
theorem dM_mark_177 : decode (xb yyM_mark) 177 = .ok (.aload_n 0, 1) := by decide +kernel
theorem dM_mark_178 : decode (xb yyM_mark) 178 = .ok (.getfield 7, 3) := by decide +kernel
theorem dM_mark_181 : decode (xb yyM_mark) 181 = .ok (.bipush 92, 2) := by decide +kernel
theorem dM_mark_183 : decode (xb yyM_mark) 183 = .ok (.iaload, 1) := by decide +kernel
theorem dM_mark_184 : decode (xb yyM_mark) 184 = .ok (.ireturn, 1) := by decide +kernel
def fM_mark  (v1 : Int32) (v2 : Int32) (v3 : Int32) (v4 : Int32) (v5 : Int32) (v6 : Int32) (m : xM) : Option (Int32 × xM) := (fM_isInstrument m v1).bind fun r2 => (if r2 = 0 then (fM_bad (-2 : Int32) m).bind fun r69 => some (r69.1, r69.2) else (fM_in ((v2).toInt64) (0 : Int64) (200 : Int64)).bind fun r14 => (if r14 = 0 then (fM_bad (-2 : Int32) m).bind fun r69 => some (r69.1, r69.2) else (fM_in ((v3).toInt64) (0 : Int64) (4 : Int64)).bind fun r26 => (if r26 = 0 then (fM_bad (-2 : Int32) m).bind fun r69 => some (r69.1, r69.2) else (fM_in ((v4).toInt64) (0 : Int64) (4 : Int64)).bind fun r39 => (if r39 = 0 then (fM_bad (-2 : Int32) m).bind fun r69 => some (r69.1, r69.2) else (fM_isString v5).bind fun r47 => (if r47 = 0 then (fM_bad (-2 : Int32) m).bind fun r69 => some (r69.1, r69.2) else (fM_in ((v6).toInt64) (0 : Int64) (400 : Int64)).bind fun r60 => (if r60 = 0 then (fM_bad (-2 : Int32) m).bind fun r69 => some (r69.1, r69.2) else xck 1752 (92 : Int32) ((if (m.1 0 (92 : Int32).toNatClampNeg) = (6 : Int32) then (fM_full m).bind fun r86 => some (r86.1, r86.2) else xck 1752 (92 : Int32) (xck 1752 ((93 : Int32) + ((6 : Int32) * (m.1 0 (92 : Int32).toNatClampNeg))) (xck 1752 (((93 : Int32) + ((6 : Int32) * (m.1 0 (92 : Int32).toNatClampNeg))) + (1 : Int32)) (xck 1752 (((93 : Int32) + ((6 : Int32) * (m.1 0 (92 : Int32).toNatClampNeg))) + (2 : Int32)) (xck 1752 (((93 : Int32) + ((6 : Int32) * (m.1 0 (92 : Int32).toNatClampNeg))) + (3 : Int32)) (xck 1752 (((93 : Int32) + ((6 : Int32) * (m.1 0 (92 : Int32).toNatClampNeg))) + (4 : Int32)) (xck 1752 (((93 : Int32) + ((6 : Int32) * (m.1 0 (92 : Int32).toNatClampNeg))) + (5 : Int32)) (xck 1752 (92 : Int32) (xck 1752 (92 : Int32) (xck 1752 (92 : Int32) (some (((xset (xset (xset (xset (xset (xset (xset m 0 ((93 : Int32) + ((6 : Int32) * (m.1 0 (92 : Int32).toNatClampNeg))).toNatClampNeg v1) 0 (((93 : Int32) + ((6 : Int32) * (m.1 0 (92 : Int32).toNatClampNeg))) + (1 : Int32)).toNatClampNeg v2) 0 (((93 : Int32) + ((6 : Int32) * (m.1 0 (92 : Int32).toNatClampNeg))) + (2 : Int32)).toNatClampNeg v3) 0 (((93 : Int32) + ((6 : Int32) * (m.1 0 (92 : Int32).toNatClampNeg))) + (3 : Int32)).toNatClampNeg v4) 0 (((93 : Int32) + ((6 : Int32) * (m.1 0 (92 : Int32).toNatClampNeg))) + (4 : Int32)).toNatClampNeg v5) 0 (((93 : Int32) + ((6 : Int32) * (m.1 0 (92 : Int32).toNatClampNeg))) + (5 : Int32)).toNatClampNeg v6) 0 (92 : Int32).toNatClampNeg (((xset (xset (xset (xset (xset (xset m 0 ((93 : Int32) + ((6 : Int32) * (m.1 0 (92 : Int32).toNatClampNeg))).toNatClampNeg v1) 0 (((93 : Int32) + ((6 : Int32) * (m.1 0 (92 : Int32).toNatClampNeg))) + (1 : Int32)).toNatClampNeg v2) 0 (((93 : Int32) + ((6 : Int32) * (m.1 0 (92 : Int32).toNatClampNeg))) + (2 : Int32)).toNatClampNeg v3) 0 (((93 : Int32) + ((6 : Int32) * (m.1 0 (92 : Int32).toNatClampNeg))) + (3 : Int32)).toNatClampNeg v4) 0 (((93 : Int32) + ((6 : Int32) * (m.1 0 (92 : Int32).toNatClampNeg))) + (4 : Int32)).toNatClampNeg v5) 0 (((93 : Int32) + ((6 : Int32) * (m.1 0 (92 : Int32).toNatClampNeg))) + (5 : Int32)).toNatClampNeg v6).1 0 (92 : Int32).toNatClampNeg) + (1 : Int32))).1 0 (92 : Int32).toNatClampNeg), (xset (xset (xset (xset (xset (xset (xset m 0 ((93 : Int32) + ((6 : Int32) * (m.1 0 (92 : Int32).toNatClampNeg))).toNatClampNeg v1) 0 (((93 : Int32) + ((6 : Int32) * (m.1 0 (92 : Int32).toNatClampNeg))) + (1 : Int32)).toNatClampNeg v2) 0 (((93 : Int32) + ((6 : Int32) * (m.1 0 (92 : Int32).toNatClampNeg))) + (2 : Int32)).toNatClampNeg v3) 0 (((93 : Int32) + ((6 : Int32) * (m.1 0 (92 : Int32).toNatClampNeg))) + (3 : Int32)).toNatClampNeg v4) 0 (((93 : Int32) + ((6 : Int32) * (m.1 0 (92 : Int32).toNatClampNeg))) + (4 : Int32)).toNatClampNeg v5) 0 (((93 : Int32) + ((6 : Int32) * (m.1 0 (92 : Int32).toNatClampNeg))) + (5 : Int32)).toNatClampNeg v6) 0 (92 : Int32).toNatClampNeg (((xset (xset (xset (xset (xset (xset m 0 ((93 : Int32) + ((6 : Int32) * (m.1 0 (92 : Int32).toNatClampNeg))).toNatClampNeg v1) 0 (((93 : Int32) + ((6 : Int32) * (m.1 0 (92 : Int32).toNatClampNeg))) + (1 : Int32)).toNatClampNeg v2) 0 (((93 : Int32) + ((6 : Int32) * (m.1 0 (92 : Int32).toNatClampNeg))) + (2 : Int32)).toNatClampNeg v3) 0 (((93 : Int32) + ((6 : Int32) * (m.1 0 (92 : Int32).toNatClampNeg))) + (3 : Int32)).toNatClampNeg v4) 0 (((93 : Int32) + ((6 : Int32) * (m.1 0 (92 : Int32).toNatClampNeg))) + (4 : Int32)).toNatClampNeg v5) 0 (((93 : Int32) + ((6 : Int32) * (m.1 0 (92 : Int32).toNatClampNeg))) + (5 : Int32)).toNatClampNeg v6).1 0 (92 : Int32).toNatClampNeg) + (1 : Int32))))))))))))))))))))))
set_option maxRecDepth 100000 in
set_option maxHeartbeats 4000000 in
theorem kM_mark (G : xG)   (z : xM) (m : xM) (v1 : Int32) (v2 : Int32) (v3 : Int32) (v4 : Int32) (v5 : Int32) (v6 : Int32) : ∀ a, fM_mark  v1 v2 v3 v4 v5 v6 m = some a → xCt G yyM_mark [.ref (xa G 85), .int v1, .int v2, .int v3, .int v4, .int v5, .int v6] (z, m) (some (.int a.1)) (z, a.2) := by
  refine xR_ct (em := (emim z)) rfl (Nat.le_of_ble_eq_true rfl) ?_
  show xR G yyM_mark _ 0 [(0, .ref (xa G 85)), (1, .int v1), (2, .int v2), (3, .int v3), (4, .int v4), (5, .int v5), (6, .int v6)] [] _ _
  unfold fM_mark
  refine xR_aln 0 0 dM_mark_0 rfl rfl ?_
  refine xR_iln 1 1 dM_mark_1 rfl rfl ?_
  refine xR_callVi 2 cv_M_isInstrument ml_RX9_177 ⟨Nat.le_of_ble_eq_true rfl, Nat.le_of_ble_eq_true rfl⟩ xcf7 rfl 85 (by decide) rfl [.int v1] rfl rfl (Nat.le_of_ble_eq_true rfl) dM_mark_2 (kM_isInstrument G z m v1) (fun r2 => ?_)
  refine xR_ifeq 5 66 dM_mark_5 (by decide) ?_ ?_
  · refine xR_aln 66 0 dM_mark_66 rfl rfl ?_
    refine xR_bp 67 (-2 : Int32) dM_mark_67 (by decide) ?_
    refine xR_callVim 69 cv_M_bad ml_RX9_66 ⟨Nat.le_of_ble_eq_true rfl, Nat.le_of_ble_eq_true rfl⟩ xcf7 rfl 85 (by decide) rfl [.int (-2 : Int32)] rfl rfl (Nat.le_of_ble_eq_true rfl) dM_mark_69 (kM_bad G z m (-2 : Int32)) (fun r69 => ?_)
    exact xR_iret 72 rfl rfl dM_mark_72
  · refine xR_iln 8 2 dM_mark_8 rfl rfl ?_
    refine xR_i2l 9 dM_mark_9 ?_
    refine xR_lc 10 (0 : Int64) dM_mark_10 (by decide) ?_
    refine xR_ldc2 11 cl_RX9_215 dM_mark_11 ?_
    refine xR_callSi 14 cs_M_in ml_RX9_40 ⟨Nat.le_of_ble_eq_true rfl, Nat.le_of_ble_eq_true rfl⟩ [.long ((v2).toInt64), .long (0 : Int64), .long (200 : Int64)] rfl rfl (Nat.le_of_ble_eq_true rfl) dM_mark_14 (kM_in G (z, m) ((v2).toInt64) (0 : Int64) (200 : Int64)) (fun r14 => ?_)
    refine xR_ifeq 17 66 dM_mark_17 (by decide) ?_ ?_
    · refine xR_aln 66 0 dM_mark_66 rfl rfl ?_
      refine xR_bp 67 (-2 : Int32) dM_mark_67 (by decide) ?_
      refine xR_callVim 69 cv_M_bad ml_RX9_66 ⟨Nat.le_of_ble_eq_true rfl, Nat.le_of_ble_eq_true rfl⟩ xcf7 rfl 85 (by decide) rfl [.int (-2 : Int32)] rfl rfl (Nat.le_of_ble_eq_true rfl) dM_mark_69 (kM_bad G z m (-2 : Int32)) (fun r69 => ?_)
      exact xR_iret 72 rfl rfl dM_mark_72
    · refine xR_iln 20 3 dM_mark_20 rfl rfl ?_
      refine xR_i2l 21 dM_mark_21 ?_
      refine xR_lc 22 (0 : Int64) dM_mark_22 (by decide) ?_
      refine xR_ldc2 23 cl_RX9_64 dM_mark_23 ?_
      refine xR_callSi 26 cs_M_in ml_RX9_40 ⟨Nat.le_of_ble_eq_true rfl, Nat.le_of_ble_eq_true rfl⟩ [.long ((v3).toInt64), .long (0 : Int64), .long (4 : Int64)] rfl rfl (Nat.le_of_ble_eq_true rfl) dM_mark_26 (kM_in G (z, m) ((v3).toInt64) (0 : Int64) (4 : Int64)) (fun r26 => ?_)
      refine xR_ifeq 29 66 dM_mark_29 (by decide) ?_ ?_
      · refine xR_aln 66 0 dM_mark_66 rfl rfl ?_
        refine xR_bp 67 (-2 : Int32) dM_mark_67 (by decide) ?_
        refine xR_callVim 69 cv_M_bad ml_RX9_66 ⟨Nat.le_of_ble_eq_true rfl, Nat.le_of_ble_eq_true rfl⟩ xcf7 rfl 85 (by decide) rfl [.int (-2 : Int32)] rfl rfl (Nat.le_of_ble_eq_true rfl) dM_mark_69 (kM_bad G z m (-2 : Int32)) (fun r69 => ?_)
        exact xR_iret 72 rfl rfl dM_mark_72
      · refine xR_il 32 4 dM_mark_32 rfl ?_
        refine xR_i2l 34 dM_mark_34 ?_
        refine xR_lc 35 (0 : Int64) dM_mark_35 (by decide) ?_
        refine xR_ldc2 36 cl_RX9_64 dM_mark_36 ?_
        refine xR_callSi 39 cs_M_in ml_RX9_40 ⟨Nat.le_of_ble_eq_true rfl, Nat.le_of_ble_eq_true rfl⟩ [.long ((v4).toInt64), .long (0 : Int64), .long (4 : Int64)] rfl rfl (Nat.le_of_ble_eq_true rfl) dM_mark_39 (kM_in G (z, m) ((v4).toInt64) (0 : Int64) (4 : Int64)) (fun r39 => ?_)
        refine xR_ifeq 42 66 dM_mark_42 (by decide) ?_ ?_
        · refine xR_aln 66 0 dM_mark_66 rfl rfl ?_
          refine xR_bp 67 (-2 : Int32) dM_mark_67 (by decide) ?_
          refine xR_callVim 69 cv_M_bad ml_RX9_66 ⟨Nat.le_of_ble_eq_true rfl, Nat.le_of_ble_eq_true rfl⟩ xcf7 rfl 85 (by decide) rfl [.int (-2 : Int32)] rfl rfl (Nat.le_of_ble_eq_true rfl) dM_mark_69 (kM_bad G z m (-2 : Int32)) (fun r69 => ?_)
          exact xR_iret 72 rfl rfl dM_mark_72
        · refine xR_il 45 5 dM_mark_45 rfl ?_
          refine xR_callSi 47 cs_M_isString ml_RX9_206 ⟨Nat.le_of_ble_eq_true rfl, Nat.le_of_ble_eq_true rfl⟩ [.int v5] rfl rfl (Nat.le_of_ble_eq_true rfl) dM_mark_47 (kM_isString G (z, m) v5) (fun r47 => ?_)
          refine xR_ifeq 50 66 dM_mark_50 (by decide) ?_ ?_
          · refine xR_aln 66 0 dM_mark_66 rfl rfl ?_
            refine xR_bp 67 (-2 : Int32) dM_mark_67 (by decide) ?_
            refine xR_callVim 69 cv_M_bad ml_RX9_66 ⟨Nat.le_of_ble_eq_true rfl, Nat.le_of_ble_eq_true rfl⟩ xcf7 rfl 85 (by decide) rfl [.int (-2 : Int32)] rfl rfl (Nat.le_of_ble_eq_true rfl) dM_mark_69 (kM_bad G z m (-2 : Int32)) (fun r69 => ?_)
            exact xR_iret 72 rfl rfl dM_mark_72
          · refine xR_il 53 6 dM_mark_53 rfl ?_
            refine xR_i2l 55 dM_mark_55 ?_
            refine xR_lc 56 (0 : Int64) dM_mark_56 (by decide) ?_
            refine xR_ldc2 57 cl_RX9_241 dM_mark_57 ?_
            refine xR_callSi 60 cs_M_in ml_RX9_40 ⟨Nat.le_of_ble_eq_true rfl, Nat.le_of_ble_eq_true rfl⟩ [.long ((v6).toInt64), .long (0 : Int64), .long (400 : Int64)] rfl rfl (Nat.le_of_ble_eq_true rfl) dM_mark_60 (kM_in G (z, m) ((v6).toInt64) (0 : Int64) (400 : Int64)) (fun r60 => ?_)
            refine xR_ifne 63 73 dM_mark_63 (by decide) ?_ ?_
            · refine xR_aln 73 0 dM_mark_73 rfl rfl ?_
              refine xR_getf 74 xcf7 0 85 (by decide) (by decide) rfl (v := .ref (xa G 86)) rfl fl_RX9_7 dM_mark_74 ?_
              refine xR_bp 77 (92 : Int32) dM_mark_77 (by decide) ?_
              refine xR_iald 79 86 (by decide) rfl dM_mark_79 ?_
              refine xR_bp 80 (6 : Int32) dM_mark_80 (by decide) ?_
              refine xR_icne 82 90 dM_mark_82 (by decide) ?_ ?_
              · refine xR_bp 90 (93 : Int32) dM_mark_90 (by decide) ?_
                refine xR_bp 92 (6 : Int32) dM_mark_92 (by decide) ?_
                refine xR_aln 94 0 dM_mark_94 rfl rfl ?_
                refine xR_getf 95 xcf7 0 85 (by decide) (by decide) rfl (v := .ref (xa G 86)) rfl fl_RX9_7 dM_mark_95 ?_
                refine xR_bp 98 (92 : Int32) dM_mark_98 (by decide) ?_
                refine xR_iald 100 86 (by decide) rfl dM_mark_100 ?_
                refine xR_imul 101 dM_mark_101 ?_
                refine xR_iadd 102 dM_mark_102 ?_
                refine xR_is 103 ([(7, .int ((93 : Int32) + ((6 : Int32) * (m.1 0 (92 : Int32).toNatClampNeg)))), (0, .ref (xa G 85)), (1, .int v1), (2, .int v2), (3, .int v3), (4, .int v4), (5, .int v5), (6, .int v6)]) dM_mark_103 (by decide) rfl ?_
                refine xR_aln 105 1 dM_mark_105 rfl rfl ?_
                refine xR_getf 106 xcf7 0 85 (by decide) (by decide) rfl (v := .ref (xa G 86)) rfl fl_RX9_7 dM_mark_106 ?_
                refine xR_il 109 0 dM_mark_109 rfl ?_
                refine xR_iln 111 2 dM_mark_111 rfl rfl ?_
                refine xR_iast 112 86 (by decide) rfl (z, (xset m 0 ((93 : Int32) + ((6 : Int32) * (m.1 0 (92 : Int32).toNatClampNeg))).toNatClampNeg v1)) xW_m0 dM_mark_112 ?_
                refine xR_aln 113 1 dM_mark_113 rfl rfl ?_
                refine xR_getf 114 xcf7 0 85 (by decide) (by decide) rfl (v := .ref (xa G 86)) rfl fl_RX9_7 dM_mark_114 ?_
                refine xR_il 117 0 dM_mark_117 rfl ?_
                refine xR_ic 119 (1 : Int32) dM_mark_119 (by decide) ?_
                refine xR_iadd 120 dM_mark_120 ?_
                refine xR_iln 121 3 dM_mark_121 rfl rfl ?_
                refine xR_iast 122 86 (by decide) rfl (z, (xset (xset m 0 ((93 : Int32) + ((6 : Int32) * (m.1 0 (92 : Int32).toNatClampNeg))).toNatClampNeg v1) 0 (((93 : Int32) + ((6 : Int32) * (m.1 0 (92 : Int32).toNatClampNeg))) + (1 : Int32)).toNatClampNeg v2)) xW_m0 dM_mark_122 ?_
                refine xR_aln 123 1 dM_mark_123 rfl rfl ?_
                refine xR_getf 124 xcf7 0 85 (by decide) (by decide) rfl (v := .ref (xa G 86)) rfl fl_RX9_7 dM_mark_124 ?_
                refine xR_il 127 0 dM_mark_127 rfl ?_
                refine xR_ic 129 (2 : Int32) dM_mark_129 (by decide) ?_
                refine xR_iadd 130 dM_mark_130 ?_
                refine xR_iln 131 4 dM_mark_131 rfl rfl ?_
                refine xR_iast 132 86 (by decide) rfl (z, (xset (xset (xset m 0 ((93 : Int32) + ((6 : Int32) * (m.1 0 (92 : Int32).toNatClampNeg))).toNatClampNeg v1) 0 (((93 : Int32) + ((6 : Int32) * (m.1 0 (92 : Int32).toNatClampNeg))) + (1 : Int32)).toNatClampNeg v2) 0 (((93 : Int32) + ((6 : Int32) * (m.1 0 (92 : Int32).toNatClampNeg))) + (2 : Int32)).toNatClampNeg v3)) xW_m0 dM_mark_132 ?_
                refine xR_aln 133 1 dM_mark_133 rfl rfl ?_
                refine xR_getf 134 xcf7 0 85 (by decide) (by decide) rfl (v := .ref (xa G 86)) rfl fl_RX9_7 dM_mark_134 ?_
                refine xR_il 137 0 dM_mark_137 rfl ?_
                refine xR_ic 139 (3 : Int32) dM_mark_139 (by decide) ?_
                refine xR_iadd 140 dM_mark_140 ?_
                refine xR_il 141 5 dM_mark_141 rfl ?_
                refine xR_iast 143 86 (by decide) rfl (z, (xset (xset (xset (xset m 0 ((93 : Int32) + ((6 : Int32) * (m.1 0 (92 : Int32).toNatClampNeg))).toNatClampNeg v1) 0 (((93 : Int32) + ((6 : Int32) * (m.1 0 (92 : Int32).toNatClampNeg))) + (1 : Int32)).toNatClampNeg v2) 0 (((93 : Int32) + ((6 : Int32) * (m.1 0 (92 : Int32).toNatClampNeg))) + (2 : Int32)).toNatClampNeg v3) 0 (((93 : Int32) + ((6 : Int32) * (m.1 0 (92 : Int32).toNatClampNeg))) + (3 : Int32)).toNatClampNeg v4)) xW_m0 dM_mark_143 ?_
                refine xR_aln 144 1 dM_mark_144 rfl rfl ?_
                refine xR_getf 145 xcf7 0 85 (by decide) (by decide) rfl (v := .ref (xa G 86)) rfl fl_RX9_7 dM_mark_145 ?_
                refine xR_il 148 0 dM_mark_148 rfl ?_
                refine xR_ic 150 (4 : Int32) dM_mark_150 (by decide) ?_
                refine xR_iadd 151 dM_mark_151 ?_
                refine xR_il 152 6 dM_mark_152 rfl ?_
                refine xR_iast 154 86 (by decide) rfl (z, (xset (xset (xset (xset (xset m 0 ((93 : Int32) + ((6 : Int32) * (m.1 0 (92 : Int32).toNatClampNeg))).toNatClampNeg v1) 0 (((93 : Int32) + ((6 : Int32) * (m.1 0 (92 : Int32).toNatClampNeg))) + (1 : Int32)).toNatClampNeg v2) 0 (((93 : Int32) + ((6 : Int32) * (m.1 0 (92 : Int32).toNatClampNeg))) + (2 : Int32)).toNatClampNeg v3) 0 (((93 : Int32) + ((6 : Int32) * (m.1 0 (92 : Int32).toNatClampNeg))) + (3 : Int32)).toNatClampNeg v4) 0 (((93 : Int32) + ((6 : Int32) * (m.1 0 (92 : Int32).toNatClampNeg))) + (4 : Int32)).toNatClampNeg v5)) xW_m0 dM_mark_154 ?_
                refine xR_aln 155 1 dM_mark_155 rfl rfl ?_
                refine xR_getf 156 xcf7 0 85 (by decide) (by decide) rfl (v := .ref (xa G 86)) rfl fl_RX9_7 dM_mark_156 ?_
                refine xR_il 159 0 dM_mark_159 rfl ?_
                refine xR_ic 161 (5 : Int32) dM_mark_161 (by decide) ?_
                refine xR_iadd 162 dM_mark_162 ?_
                refine xR_il 163 7 dM_mark_163 rfl ?_
                refine xR_iast 165 86 (by decide) rfl (z, (xset (xset (xset (xset (xset (xset m 0 ((93 : Int32) + ((6 : Int32) * (m.1 0 (92 : Int32).toNatClampNeg))).toNatClampNeg v1) 0 (((93 : Int32) + ((6 : Int32) * (m.1 0 (92 : Int32).toNatClampNeg))) + (1 : Int32)).toNatClampNeg v2) 0 (((93 : Int32) + ((6 : Int32) * (m.1 0 (92 : Int32).toNatClampNeg))) + (2 : Int32)).toNatClampNeg v3) 0 (((93 : Int32) + ((6 : Int32) * (m.1 0 (92 : Int32).toNatClampNeg))) + (3 : Int32)).toNatClampNeg v4) 0 (((93 : Int32) + ((6 : Int32) * (m.1 0 (92 : Int32).toNatClampNeg))) + (4 : Int32)).toNatClampNeg v5) 0 (((93 : Int32) + ((6 : Int32) * (m.1 0 (92 : Int32).toNatClampNeg))) + (5 : Int32)).toNatClampNeg v6)) xW_m0 dM_mark_165 ?_
                refine xR_aln 166 1 dM_mark_166 rfl rfl ?_
                refine xR_getf 167 xcf7 0 85 (by decide) (by decide) rfl (v := .ref (xa G 86)) rfl fl_RX9_7 dM_mark_167 ?_
                refine xR_bp 170 (92 : Int32) dM_mark_170 (by decide) ?_
                refine xR_dup2 172 dM_mark_172 rfl rfl ?_
                refine xR_iald 173 86 (by decide) rfl dM_mark_173 ?_
                refine xR_ic 174 (1 : Int32) dM_mark_174 (by decide) ?_
                refine xR_iadd 175 dM_mark_175 ?_
                refine xR_iast 176 86 (by decide) rfl (z, (xset (xset (xset (xset (xset (xset (xset m 0 ((93 : Int32) + ((6 : Int32) * (m.1 0 (92 : Int32).toNatClampNeg))).toNatClampNeg v1) 0 (((93 : Int32) + ((6 : Int32) * (m.1 0 (92 : Int32).toNatClampNeg))) + (1 : Int32)).toNatClampNeg v2) 0 (((93 : Int32) + ((6 : Int32) * (m.1 0 (92 : Int32).toNatClampNeg))) + (2 : Int32)).toNatClampNeg v3) 0 (((93 : Int32) + ((6 : Int32) * (m.1 0 (92 : Int32).toNatClampNeg))) + (3 : Int32)).toNatClampNeg v4) 0 (((93 : Int32) + ((6 : Int32) * (m.1 0 (92 : Int32).toNatClampNeg))) + (4 : Int32)).toNatClampNeg v5) 0 (((93 : Int32) + ((6 : Int32) * (m.1 0 (92 : Int32).toNatClampNeg))) + (5 : Int32)).toNatClampNeg v6) 0 (92 : Int32).toNatClampNeg (((xset (xset (xset (xset (xset (xset m 0 ((93 : Int32) + ((6 : Int32) * (m.1 0 (92 : Int32).toNatClampNeg))).toNatClampNeg v1) 0 (((93 : Int32) + ((6 : Int32) * (m.1 0 (92 : Int32).toNatClampNeg))) + (1 : Int32)).toNatClampNeg v2) 0 (((93 : Int32) + ((6 : Int32) * (m.1 0 (92 : Int32).toNatClampNeg))) + (2 : Int32)).toNatClampNeg v3) 0 (((93 : Int32) + ((6 : Int32) * (m.1 0 (92 : Int32).toNatClampNeg))) + (3 : Int32)).toNatClampNeg v4) 0 (((93 : Int32) + ((6 : Int32) * (m.1 0 (92 : Int32).toNatClampNeg))) + (4 : Int32)).toNatClampNeg v5) 0 (((93 : Int32) + ((6 : Int32) * (m.1 0 (92 : Int32).toNatClampNeg))) + (5 : Int32)).toNatClampNeg v6).1 0 (92 : Int32).toNatClampNeg) + (1 : Int32)))) xW_m0 dM_mark_176 ?_
                refine xR_aln 177 1 dM_mark_177 rfl rfl ?_
                refine xR_getf 178 xcf7 0 85 (by decide) (by decide) rfl (v := .ref (xa G 86)) rfl fl_RX9_7 dM_mark_178 ?_
                refine xR_bp 181 (92 : Int32) dM_mark_181 (by decide) ?_
                refine xR_iald 183 86 (by decide) rfl dM_mark_183 ?_
                exact xR_iret 184 rfl rfl dM_mark_184
              · refine xR_aln 85 0 dM_mark_85 rfl rfl ?_
                refine xR_callVim 86 cv_M_full ml_RX9_76 ⟨Nat.le_of_ble_eq_true rfl, Nat.le_of_ble_eq_true rfl⟩ xcf7 rfl 85 (by decide) rfl [] rfl rfl (Nat.le_of_ble_eq_true rfl) dM_mark_86 (kM_full G z m) (fun r86 => ?_)
                exact xR_iret 89 rfl rfl dM_mark_89
            · refine xR_aln 66 0 dM_mark_66 rfl rfl ?_
              refine xR_bp 67 (-2 : Int32) dM_mark_67 (by decide) ?_
              refine xR_callVim 69 cv_M_bad ml_RX9_66 ⟨Nat.le_of_ble_eq_true rfl, Nat.le_of_ble_eq_true rfl⟩ xcf7 rfl 85 (by decide) rfl [.int (-2 : Int32)] rfl rfl (Nat.le_of_ble_eq_true rfl) dM_mark_69 (kM_bad G z m (-2 : Int32)) (fun r69 => ?_)
              exact xR_iret 72 rfl rfl dM_mark_72
theorem dM_forget_0 : decode (xb yyM_forget) 0 = .ok (.iload_n 1, 1) := by decide +kernel
theorem dM_forget_1 : decode (xb yyM_forget) 1 = .ok (.i2l, 1) := by decide +kernel
theorem dM_forget_2 : decode (xb yyM_forget) 2 = .ok (.lconst 0, 1) := by decide +kernel
theorem dM_forget_3 : decode (xb yyM_forget) 3 = .ok (.ldc2_w 121, 3) := by decide +kernel
theorem dM_forget_6 : decode (xb yyM_forget) 6 = .ok (.invokestatic 40, 3) := by decide +kernel
theorem dM_forget_9 : decode (xb yyM_forget) 9 = .ok (.ifCond .ne 10, 3) := by decide +kernel
theorem dM_forget_12 : decode (xb yyM_forget) 12 = .ok (.aload_n 0, 1) := by decide +kernel
theorem dM_forget_13 : decode (xb yyM_forget) 13 = .ok (.bipush (-2), 2) := by decide +kernel
theorem dM_forget_15 : decode (xb yyM_forget) 15 = .ok (.invokevirtual 66, 3) := by decide +kernel
theorem dM_forget_18 : decode (xb yyM_forget) 18 = .ok (.ireturn, 1) := by decide +kernel
theorem dM_forget_19 : decode (xb yyM_forget) 19 = .ok (.iload_n 1, 1) := by decide +kernel
theorem dM_forget_20 : decode (xb yyM_forget) 20 = .ok (.ifCond .ne 8, 3) := by decide +kernel
theorem dM_forget_23 : decode (xb yyM_forget) 23 = .ok (.bipush 48, 2) := by decide +kernel
theorem dM_forget_25 : decode (xb yyM_forget) 25 = .ok (.goto 15, 3) := by decide +kernel
theorem dM_forget_28 : decode (xb yyM_forget) 28 = .ok (.iload_n 1, 1) := by decide +kernel
theorem dM_forget_29 : decode (xb yyM_forget) 29 = .ok (.iconst 1, 1) := by decide +kernel
theorem dM_forget_30 : decode (xb yyM_forget) 30 = .ok (.if_icmp .ne 8, 3) := by decide +kernel
theorem dM_forget_33 : decode (xb yyM_forget) 33 = .ok (.bipush 61, 2) := by decide +kernel
theorem dM_forget_35 : decode (xb yyM_forget) 35 = .ok (.goto 5, 3) := by decide +kernel
theorem dM_forget_38 : decode (xb yyM_forget) 38 = .ok (.bipush 92, 2) := by decide +kernel
theorem dM_forget_40 : decode (xb yyM_forget) 40 = .ok (.istore_n 2, 1) := by decide +kernel
theorem dM_forget_41 : decode (xb yyM_forget) 41 = .ok (.aload_n 0, 1) := by decide +kernel
theorem dM_forget_42 : decode (xb yyM_forget) 42 = .ok (.getfield 7, 3) := by decide +kernel
theorem dM_forget_45 : decode (xb yyM_forget) 45 = .ok (.iload_n 2, 1) := by decide +kernel
theorem dM_forget_46 : decode (xb yyM_forget) 46 = .ok (.iaload, 1) := by decide +kernel
theorem dM_forget_47 : decode (xb yyM_forget) 47 = .ok (.istore_n 3, 1) := by decide +kernel
theorem dM_forget_48 : decode (xb yyM_forget) 48 = .ok (.aload_n 0, 1) := by decide +kernel
theorem dM_forget_49 : decode (xb yyM_forget) 49 = .ok (.getfield 7, 3) := by decide +kernel
theorem dM_forget_52 : decode (xb yyM_forget) 52 = .ok (.iload_n 2, 1) := by decide +kernel
theorem dM_forget_53 : decode (xb yyM_forget) 53 = .ok (.iconst 0, 1) := by decide +kernel
theorem dM_forget_54 : decode (xb yyM_forget) 54 = .ok (.iastore, 1) := by decide +kernel
theorem dM_forget_55 : decode (xb yyM_forget) 55 = .ok (.iload_n 3, 1) := by decide +kernel
theorem dM_forget_56 : decode (xb yyM_forget) 56 = .ok (.ireturn, 1) := by decide +kernel
def fM_forget_b40  (s0 : Int32) (m : xM) : Option (Int32 × xM) := xck 1752 s0 (xck 1752 s0 (some ((m.1 0 s0.toNatClampNeg), (xset m 0 s0.toNatClampNeg (0 : Int32)))))
def fM_forget  (v1 : Int32) (m : xM) : Option (Int32 × xM) := (fM_in ((v1).toInt64) (0 : Int64) (2 : Int64)).bind fun r6 => (if r6 = 0 then (fM_bad (-2 : Int32) m).bind fun r15 => some (r15.1, r15.2) else (if v1 = 0 then fM_forget_b40 (48 : Int32) m else (if v1 = (1 : Int32) then fM_forget_b40 (61 : Int32) m else fM_forget_b40 (92 : Int32) m)))
set_option maxRecDepth 100000 in
set_option maxHeartbeats 4000000 in
theorem kM_forget_b40 (G : xG)   (z : xM)    (s0 : Int32) (m : xM) : xR G yyM_forget (emim z) 40 [(0, .ref (xa G 85))] [.int s0] (z, m) (fM_forget_b40  s0 m) := by
  unfold fM_forget_b40
  refine xR_isn 40 ([(2, .int s0), (0, .ref (xa G 85))]) dM_forget_40 rfl (by decide) rfl ?_
  refine xR_aln 41 1 dM_forget_41 rfl rfl ?_
  refine xR_getf 42 xcf7 0 85 (by decide) (by decide) rfl (v := .ref (xa G 86)) rfl fl_RX9_7 dM_forget_42 ?_
  refine xR_iln 45 0 dM_forget_45 rfl rfl ?_
  refine xR_iald 46 86 (by decide) rfl dM_forget_46 ?_
  refine xR_isn 47 ([(3, .int (m.1 0 s0.toNatClampNeg)), (2, .int s0), (0, .ref (xa G 85))]) dM_forget_47 rfl (by decide) rfl ?_
  refine xR_aln 48 2 dM_forget_48 rfl rfl ?_
  refine xR_getf 49 xcf7 0 85 (by decide) (by decide) rfl (v := .ref (xa G 86)) rfl fl_RX9_7 dM_forget_49 ?_
  refine xR_iln 52 1 dM_forget_52 rfl rfl ?_
  refine xR_ic 53 (0 : Int32) dM_forget_53 (by decide) ?_
  refine xR_iast 54 86 (by decide) rfl (z, (xset m 0 s0.toNatClampNeg (0 : Int32))) xW_m0 dM_forget_54 ?_
  refine xR_iln 55 0 dM_forget_55 rfl rfl ?_
  exact xR_iret 56 rfl rfl dM_forget_56
set_option maxRecDepth 100000 in
set_option maxHeartbeats 4000000 in
theorem kM_forget (G : xG)   (z : xM) (m : xM) (v1 : Int32) : ∀ a, fM_forget  v1 m = some a → xCt G yyM_forget [.ref (xa G 85), .int v1] (z, m) (some (.int a.1)) (z, a.2) := by
  refine xR_ct (em := (emim z)) rfl (Nat.le_of_ble_eq_true rfl) ?_
  show xR G yyM_forget _ 0 [(0, .ref (xa G 85)), (1, .int v1)] [] _ _
  unfold fM_forget
  refine xR_iln 0 1 dM_forget_0 rfl rfl ?_
  refine xR_i2l 1 dM_forget_1 ?_
  refine xR_lc 2 (0 : Int64) dM_forget_2 (by decide) ?_
  refine xR_ldc2 3 cl_RX9_121 dM_forget_3 ?_
  refine xR_callSi 6 cs_M_in ml_RX9_40 ⟨Nat.le_of_ble_eq_true rfl, Nat.le_of_ble_eq_true rfl⟩ [.long ((v1).toInt64), .long (0 : Int64), .long (2 : Int64)] rfl rfl (Nat.le_of_ble_eq_true rfl) dM_forget_6 (kM_in G (z, m) ((v1).toInt64) (0 : Int64) (2 : Int64)) (fun r6 => ?_)
  refine xR_ifne 9 19 dM_forget_9 (by decide) ?_ ?_
  · refine xR_iln 19 1 dM_forget_19 rfl rfl ?_
    refine xR_ifne 20 28 dM_forget_20 (by decide) ?_ ?_
    · refine xR_iln 28 1 dM_forget_28 rfl rfl ?_
      refine xR_ic 29 (1 : Int32) dM_forget_29 (by decide) ?_
      refine xR_icne 30 38 dM_forget_30 (by decide) ?_ ?_
      · refine xR_bp 38 (92 : Int32) dM_forget_38 (by decide) ?_
        exact xR_sub [0] rfl (kM_forget_b40 G z (92 : Int32) m)
      · refine xR_bp 33 (61 : Int32) dM_forget_33 (by decide) ?_
        refine xR_goto 35 40 dM_forget_35 (by decide) ?_
        exact xR_sub [0] rfl (kM_forget_b40 G z (61 : Int32) m)
    · refine xR_bp 23 (48 : Int32) dM_forget_23 (by decide) ?_
      refine xR_goto 25 40 dM_forget_25 (by decide) ?_
      exact xR_sub [0] rfl (kM_forget_b40 G z (48 : Int32) m)
  · refine xR_aln 12 0 dM_forget_12 rfl rfl ?_
    refine xR_bp 13 (-2 : Int32) dM_forget_13 (by decide) ?_
    refine xR_callVim 15 cv_M_bad ml_RX9_66 ⟨Nat.le_of_ble_eq_true rfl, Nat.le_of_ble_eq_true rfl⟩ xcf7 rfl 85 (by decide) rfl [.int (-2 : Int32)] rfl rfl (Nat.le_of_ble_eq_true rfl) dM_forget_15 (kM_bad G z m (-2 : Int32)) (fun r15 => ?_)
    exact xR_iret 18 rfl rfl dM_forget_18
theorem dM_kindsOf_0 : decode (xb yyM_kindsOf) 0 = .ok (.iconst 0, 1) := by decide +kernel
theorem dM_kindsOf_1 : decode (xb yyM_kindsOf) 1 = .ok (.istore_n 2, 1) := by decide +kernel
theorem dM_kindsOf_2 : decode (xb yyM_kindsOf) 2 = .ok (.iconst 0, 1) := by decide +kernel
theorem dM_kindsOf_3 : decode (xb yyM_kindsOf) 3 = .ok (.istore_n 3, 1) := by decide +kernel
theorem dM_kindsOf_4 : decode (xb yyM_kindsOf) 4 = .ok (.iload_n 3, 1) := by decide +kernel
theorem dM_kindsOf_5 : decode (xb yyM_kindsOf) 5 = .ok (.bipush 6, 2) := by decide +kernel
theorem dM_kindsOf_7 : decode (xb yyM_kindsOf) 7 = .ok (.if_icmp .ge 123, 3) := by decide +kernel
theorem dM_kindsOf_10 : decode (xb yyM_kindsOf) 10 = .ok (.iconst 1, 1) := by decide +kernel
theorem dM_kindsOf_11 : decode (xb yyM_kindsOf) 11 = .ok (.istore 4, 2) := by decide +kernel
theorem dM_kindsOf_13 : decode (xb yyM_kindsOf) 13 = .ok (.iconst 0, 1) := by decide +kernel
theorem dM_kindsOf_14 : decode (xb yyM_kindsOf) 14 = .ok (.istore 5, 2) := by decide +kernel
theorem dM_kindsOf_16 : decode (xb yyM_kindsOf) 16 = .ok (.iload 5, 2) := by decide +kernel
theorem dM_kindsOf_18 : decode (xb yyM_kindsOf) 18 = .ok (.aload_n 0, 1) := by decide +kernel
theorem dM_kindsOf_19 : decode (xb yyM_kindsOf) 19 = .ok (.getfield 7, 3) := by decide +kernel
theorem dM_kindsOf_22 : decode (xb yyM_kindsOf) 22 = .ok (.bipush 61, 2) := by decide +kernel
theorem dM_kindsOf_24 : decode (xb yyM_kindsOf) 24 = .ok (.iaload, 1) := by decide +kernel
theorem dM_kindsOf_25 : decode (xb yyM_kindsOf) 25 = .ok (.if_icmp .ge 84, 3) := by decide +kernel
theorem dM_kindsOf_28 : decode (xb yyM_kindsOf) 28 = .ok (.bipush 62, 2) := by decide +kernel
theorem dM_kindsOf_30 : decode (xb yyM_kindsOf) 30 = .ok (.iconst 5, 1) := by decide +kernel
theorem dM_kindsOf_31 : decode (xb yyM_kindsOf) 31 = .ok (.iload 5, 2) := by decide +kernel
theorem dM_kindsOf_33 : decode (xb yyM_kindsOf) 33 = .ok (.imul, 1) := by decide +kernel
theorem dM_kindsOf_34 : decode (xb yyM_kindsOf) 34 = .ok (.iadd, 1) := by decide +kernel
theorem dM_kindsOf_35 : decode (xb yyM_kindsOf) 35 = .ok (.istore 6, 2) := by decide +kernel
theorem dM_kindsOf_37 : decode (xb yyM_kindsOf) 37 = .ok (.iload 4, 2) := by decide +kernel
theorem dM_kindsOf_39 : decode (xb yyM_kindsOf) 39 = .ok (.ifCond .eq 61, 3) := by decide +kernel
theorem dM_kindsOf_42 : decode (xb yyM_kindsOf) 42 = .ok (.aload_n 0, 1) := by decide +kernel
theorem dM_kindsOf_43 : decode (xb yyM_kindsOf) 43 = .ok (.getfield 7, 3) := by decide +kernel
theorem dM_kindsOf_46 : decode (xb yyM_kindsOf) 46 = .ok (.iload 6, 2) := by decide +kernel
theorem dM_kindsOf_48 : decode (xb yyM_kindsOf) 48 = .ok (.iaload, 1) := by decide +kernel
theorem dM_kindsOf_49 : decode (xb yyM_kindsOf) 49 = .ok (.iload_n 1, 1) := by decide +kernel
theorem dM_kindsOf_50 : decode (xb yyM_kindsOf) 50 = .ok (.if_icmp .ne 46, 3) := by decide +kernel
theorem dM_kindsOf_53 : decode (xb yyM_kindsOf) 53 = .ok (.iload_n 3, 1) := by decide +kernel
theorem dM_kindsOf_54 : decode (xb yyM_kindsOf) 54 = .ok (.aload_n 0, 1) := by decide +kernel
theorem dM_kindsOf_55 : decode (xb yyM_kindsOf) 55 = .ok (.getfield 7, 3) := by decide +kernel
theorem dM_kindsOf_58 : decode (xb yyM_kindsOf) 58 = .ok (.iload 6, 2) := by decide +kernel
theorem dM_kindsOf_60 : decode (xb yyM_kindsOf) 60 = .ok (.iconst 3, 1) := by decide +kernel
theorem dM_kindsOf_61 : decode (xb yyM_kindsOf) 61 = .ok (.iadd, 1) := by decide +kernel
theorem dM_kindsOf_62 : decode (xb yyM_kindsOf) 62 = .ok (.iaload, 1) := by decide +kernel
theorem dM_kindsOf_63 : decode (xb yyM_kindsOf) 63 = .ok (.aload_n 0, 1) := by decide +kernel
theorem dM_kindsOf_64 : decode (xb yyM_kindsOf) 64 = .ok (.getfield 7, 3) := by decide +kernel
theorem dM_kindsOf_67 : decode (xb yyM_kindsOf) 67 = .ok (.iload 6, 2) := by decide +kernel
theorem dM_kindsOf_69 : decode (xb yyM_kindsOf) 69 = .ok (.iconst 1, 1) := by decide +kernel
theorem dM_kindsOf_70 : decode (xb yyM_kindsOf) 70 = .ok (.iadd, 1) := by decide +kernel
theorem dM_kindsOf_71 : decode (xb yyM_kindsOf) 71 = .ok (.iaload, 1) := by decide +kernel
theorem dM_kindsOf_72 : decode (xb yyM_kindsOf) 72 = .ok (.aload_n 0, 1) := by decide +kernel
theorem dM_kindsOf_73 : decode (xb yyM_kindsOf) 73 = .ok (.getfield 7, 3) := by decide +kernel
theorem dM_kindsOf_76 : decode (xb yyM_kindsOf) 76 = .ok (.iload 6, 2) := by decide +kernel
theorem dM_kindsOf_78 : decode (xb yyM_kindsOf) 78 = .ok (.iconst 2, 1) := by decide +kernel
theorem dM_kindsOf_79 : decode (xb yyM_kindsOf) 79 = .ok (.iadd, 1) := by decide +kernel
theorem dM_kindsOf_80 : decode (xb yyM_kindsOf) 80 = .ok (.iaload, 1) := by decide +kernel
theorem dM_kindsOf_81 : decode (xb yyM_kindsOf) 81 = .ok (.invokestatic 195, 3) := by decide +kernel
theorem dM_kindsOf_84 : decode (xb yyM_kindsOf) 84 = .ok (.aload_n 0, 1) := by decide +kernel
theorem dM_kindsOf_85 : decode (xb yyM_kindsOf) 85 = .ok (.getfield 7, 3) := by decide +kernel
theorem dM_kindsOf_88 : decode (xb yyM_kindsOf) 88 = .ok (.iload 6, 2) := by decide +kernel
theorem dM_kindsOf_90 : decode (xb yyM_kindsOf) 90 = .ok (.iconst 4, 1) := by decide +kernel
theorem dM_kindsOf_91 : decode (xb yyM_kindsOf) 91 = .ok (.iadd, 1) := by decide +kernel
theorem dM_kindsOf_92 : decode (xb yyM_kindsOf) 92 = .ok (.iaload, 1) := by decide +kernel
theorem dM_kindsOf_93 : decode (xb yyM_kindsOf) 93 = .ok (.if_icmp .ne 7, 3) := by decide +kernel
theorem dM_kindsOf_96 : decode (xb yyM_kindsOf) 96 = .ok (.iconst 1, 1) := by decide +kernel
theorem dM_kindsOf_97 : decode (xb yyM_kindsOf) 97 = .ok (.goto 4, 3) := by decide +kernel
theorem dM_kindsOf_100 : decode (xb yyM_kindsOf) 100 = .ok (.iconst 0, 1) := by decide +kernel
theorem dM_kindsOf_101 : decode (xb yyM_kindsOf) 101 = .ok (.istore 4, 2) := by decide +kernel
theorem dM_kindsOf_103 : decode (xb yyM_kindsOf) 103 = .ok (.iinc 5 1, 3) := by decide +kernel
theorem dM_kindsOf_106 : decode (xb yyM_kindsOf) 106 = .ok (.goto (-90), 3) := by decide +kernel
theorem dM_kindsOf_109 : decode (xb yyM_kindsOf) 109 = .ok (.iload_n 2, 1) := by decide +kernel
theorem dM_kindsOf_110 : decode (xb yyM_kindsOf) 110 = .ok (.iload 4, 2) := by decide +kernel
theorem dM_kindsOf_112 : decode (xb yyM_kindsOf) 112 = .ok (.ifCond .eq 9, 3) := by decide +kernel
theorem dM_kindsOf_115 : decode (xb yyM_kindsOf) 115 = .ok (.iconst 1, 1) := by decide +kernel
theorem dM_kindsOf_116 : decode (xb yyM_kindsOf) 116 = .ok (.iload_n 3, 1) := by decide +kernel
theorem dM_kindsOf_117 : decode (xb yyM_kindsOf) 117 = .ok (.ishl, 1) := by decide +kernel
theorem dM_kindsOf_118 : decode (xb yyM_kindsOf) 118 = .ok (.goto 4, 3) := by decide +kernel
theorem dM_kindsOf_121 : decode (xb yyM_kindsOf) 121 = .ok (.iconst 0, 1) := by decide +kernel
theorem dM_kindsOf_122 : decode (xb yyM_kindsOf) 122 = .ok (.ior, 1) := by decide +kernel
theorem dM_kindsOf_123 : decode (xb yyM_kindsOf) 123 = .ok (.istore_n 2, 1) := by decide +kernel
theorem dM_kindsOf_124 : decode (xb yyM_kindsOf) 124 = .ok (.iinc 3 1, 3) := by decide +kernel
theorem dM_kindsOf_127 : decode (xb yyM_kindsOf) 127 = .ok (.goto (-123), 3) := by decide +kernel
theorem dM_kindsOf_130 : decode (xb yyM_kindsOf) 130 = .ok (.iload_n 2, 1) := by decide +kernel
theorem dM_kindsOf_131 : decode (xb yyM_kindsOf) 131 = .ok (.ireturn, 1) := by decide +kernel
def fM_kindsOf_b122  (m : xM) (k4 : Int32 → Int32 → Int32 → Option (Int32)) (v1 : Int32) (v3 : Int32) (s0 : Int32) (s1 : Int32) : Option (Int32) := k4 v1 (s1 ||| s0) (v3 + 1)
def fM_kindsOf_b101  (m : xM) (k4 : Int32 → Int32 → Int32 → Option (Int32)) (k16 : Int32 → Int32 → Int32 → Int32 → Int32 → Option (Int32)) (v1 : Int32) (v2 : Int32) (v3 : Int32) (v5 : Int32) (s0 : Int32) : Option (Int32) := k16 v1 v2 v3 s0 (v5 + 1)
def fM_kindsOf_b100  (m : xM) (k4 : Int32 → Int32 → Int32 → Option (Int32)) (k16 : Int32 → Int32 → Int32 → Int32 → Int32 → Option (Int32)) (v1 : Int32) (v2 : Int32) (v3 : Int32) (v5 : Int32) : Option (Int32) := fM_kindsOf_b101 m k4 k16 v1 v2 v3 v5 (0 : Int32)
def fM_kindsOf_b96  (m : xM) (k4 : Int32 → Int32 → Int32 → Option (Int32)) (k16 : Int32 → Int32 → Int32 → Int32 → Int32 → Option (Int32)) (v1 : Int32) (v2 : Int32) (v3 : Int32) (v5 : Int32) : Option (Int32) := fM_kindsOf_b101 m k4 k16 v1 v2 v3 v5 (1 : Int32)
def fM_kindsOf_l16  (m : xM) (k4 : Int32 → Int32 → Int32 → Option (Int32)) : Nat → Int32 → Int32 → Int32 → Int32 → Int32 → Option (Int32)
  | 0, _, _, _, _, _ => none
  | n + 1, v1, v2, v3, v4, v5 => xck 1752 (61 : Int32) ((if (m.1 0 (61 : Int32).toNatClampNeg) ≤ v5 then (if v4 = 0 then fM_kindsOf_b122 m k4 v1 v3 (0 : Int32) v2 else fM_kindsOf_b122 m k4 v1 v3 ((1 : Int32) <<< (v3 &&& 31)) v2) else (if v4 = 0 then fM_kindsOf_b100 m k4 (fM_kindsOf_l16 m k4 n) v1 v2 v3 v5 else xck 1752 ((62 : Int32) + ((5 : Int32) * v5)) ((if (m.1 0 ((62 : Int32) + ((5 : Int32) * v5)).toNatClampNeg) = v1 then xck 1752 (((62 : Int32) + ((5 : Int32) * v5)) + (3 : Int32)) (xck 1752 (((62 : Int32) + ((5 : Int32) * v5)) + (1 : Int32)) (xck 1752 (((62 : Int32) + ((5 : Int32) * v5)) + (2 : Int32)) ((fM_soundOf v3 (m.1 0 (((62 : Int32) + ((5 : Int32) * v5)) + (3 : Int32)).toNatClampNeg) (m.1 0 (((62 : Int32) + ((5 : Int32) * v5)) + (1 : Int32)).toNatClampNeg) (m.1 0 (((62 : Int32) + ((5 : Int32) * v5)) + (2 : Int32)).toNatClampNeg)).bind fun r81 => xck 1752 (((62 : Int32) + ((5 : Int32) * v5)) + (4 : Int32)) ((if r81 = (m.1 0 (((62 : Int32) + ((5 : Int32) * v5)) + (4 : Int32)).toNatClampNeg) then fM_kindsOf_b96 m k4 (fM_kindsOf_l16 m k4 n) v1 v2 v3 v5 else fM_kindsOf_b100 m k4 (fM_kindsOf_l16 m k4 n) v1 v2 v3 v5))))) else fM_kindsOf_b96 m k4 (fM_kindsOf_l16 m k4 n) v1 v2 v3 v5)))))
def fM_kindsOf_l4  (m : xM) : Nat → Int32 → Int32 → Int32 → Option (Int32)
  | 0, _, _, _ => none
  | n + 1, v1, v2, v3 => (if (6 : Int32) ≤ v3 then some v2 else fM_kindsOf_l16 m (fM_kindsOf_l4 m n) xfu v1 v2 v3 (1 : Int32) (0 : Int32))
def fM_kindsOf  (m : xM) (v1 : Int32) : Option (Int32) := fM_kindsOf_l4 m xfu v1 (0 : Int32) (0 : Int32)
set_option maxRecDepth 100000 in
set_option maxHeartbeats 4000000 in
theorem kM_kindsOf_b122 (G : xG)   (z : xM) (m : xM) (k4 : Int32 → Int32 → Int32 → Option (Int32)) (hk4 : ∀ (v1 : Int32) (v2 : Int32) (v3 : Int32), xR G yyM_kindsOf (emi (z, m)) 4 [(0, .ref (xa G 85)), (1, .int v1), (2, .int v2), (3, .int v3)] [] (z, m) (k4 v1 v2 v3)) (v1 : Int32) (v3 : Int32) (s0 : Int32) (s1 : Int32) : xR G yyM_kindsOf (emi (z, m)) 122 [(0, .ref (xa G 85)), (1, .int v1), (3, .int v3)] [.int s0, .int s1] (z, m) (fM_kindsOf_b122 m k4 v1 v3 s0 s1) := by
  unfold fM_kindsOf_b122
  refine xR_ior 122 dM_kindsOf_122 ?_
  refine xR_isn 123 ([(2, .int (s1 ||| s0)), (0, .ref (xa G 85)), (1, .int v1), (3, .int v3)]) dM_kindsOf_123 rfl (by decide) rfl ?_
  refine xR_iinc 124 3 (v3 + 1) ([(3, .int (v3 + 1)), (2, .int (s1 ||| s0)), (0, .ref (xa G 85)), (1, .int v1)]) dM_kindsOf_124 rfl rfl (by decide) rfl ?_
  refine xR_goto 127 4 dM_kindsOf_127 (by decide) ?_
  exact xR_sub [2, 3, 1, 0] rfl (hk4 v1 (s1 ||| s0) (v3 + 1))
set_option maxRecDepth 100000 in
set_option maxHeartbeats 4000000 in
theorem kM_kindsOf_b101 (G : xG)   (z : xM) (m : xM) (k4 : Int32 → Int32 → Int32 → Option (Int32)) (k16 : Int32 → Int32 → Int32 → Int32 → Int32 → Option (Int32)) (hk4 : ∀ (v1 : Int32) (v2 : Int32) (v3 : Int32), xR G yyM_kindsOf (emi (z, m)) 4 [(0, .ref (xa G 85)), (1, .int v1), (2, .int v2), (3, .int v3)] [] (z, m) (k4 v1 v2 v3)) (hk16 : ∀ (v1 : Int32) (v2 : Int32) (v3 : Int32) (v4 : Int32) (v5 : Int32), xR G yyM_kindsOf (emi (z, m)) 16 [(0, .ref (xa G 85)), (1, .int v1), (2, .int v2), (3, .int v3), (4, .int v4), (5, .int v5)] [] (z, m) (k16 v1 v2 v3 v4 v5)) (v1 : Int32) (v2 : Int32) (v3 : Int32) (v5 : Int32) (s0 : Int32) : xR G yyM_kindsOf (emi (z, m)) 101 [(0, .ref (xa G 85)), (1, .int v1), (2, .int v2), (3, .int v3), (5, .int v5)] [.int s0] (z, m) (fM_kindsOf_b101 m k4 k16 v1 v2 v3 v5 s0) := by
  unfold fM_kindsOf_b101
  refine xR_is 101 ([(4, .int s0), (0, .ref (xa G 85)), (1, .int v1), (2, .int v2), (3, .int v3), (5, .int v5)]) dM_kindsOf_101 (by decide) rfl ?_
  refine xR_iinc 103 5 (v5 + 1) ([(5, .int (v5 + 1)), (4, .int s0), (0, .ref (xa G 85)), (1, .int v1), (2, .int v2), (3, .int v3)]) dM_kindsOf_103 rfl rfl (by decide) rfl ?_
  refine xR_goto 106 16 dM_kindsOf_106 (by decide) ?_
  exact xR_sub [2, 3, 4, 5, 1, 0] rfl (hk16 v1 v2 v3 s0 (v5 + 1))
set_option maxRecDepth 100000 in
set_option maxHeartbeats 4000000 in
theorem kM_kindsOf_b100 (G : xG)   (z : xM) (m : xM) (k4 : Int32 → Int32 → Int32 → Option (Int32)) (k16 : Int32 → Int32 → Int32 → Int32 → Int32 → Option (Int32)) (hk4 : ∀ (v1 : Int32) (v2 : Int32) (v3 : Int32), xR G yyM_kindsOf (emi (z, m)) 4 [(0, .ref (xa G 85)), (1, .int v1), (2, .int v2), (3, .int v3)] [] (z, m) (k4 v1 v2 v3)) (hk16 : ∀ (v1 : Int32) (v2 : Int32) (v3 : Int32) (v4 : Int32) (v5 : Int32), xR G yyM_kindsOf (emi (z, m)) 16 [(0, .ref (xa G 85)), (1, .int v1), (2, .int v2), (3, .int v3), (4, .int v4), (5, .int v5)] [] (z, m) (k16 v1 v2 v3 v4 v5)) (v1 : Int32) (v2 : Int32) (v3 : Int32) (v5 : Int32) : xR G yyM_kindsOf (emi (z, m)) 100 [(0, .ref (xa G 85)), (1, .int v1), (2, .int v2), (3, .int v3), (5, .int v5)] [] (z, m) (fM_kindsOf_b100 m k4 k16 v1 v2 v3 v5) := by
  unfold fM_kindsOf_b100
  refine xR_ic 100 (0 : Int32) dM_kindsOf_100 (by decide) ?_
  exact kM_kindsOf_b101 G z m k4 k16 hk4 hk16 v1 v2 v3 v5 (0 : Int32)
set_option maxRecDepth 100000 in
set_option maxHeartbeats 4000000 in
theorem kM_kindsOf_b96 (G : xG)   (z : xM) (m : xM) (k4 : Int32 → Int32 → Int32 → Option (Int32)) (k16 : Int32 → Int32 → Int32 → Int32 → Int32 → Option (Int32)) (hk4 : ∀ (v1 : Int32) (v2 : Int32) (v3 : Int32), xR G yyM_kindsOf (emi (z, m)) 4 [(0, .ref (xa G 85)), (1, .int v1), (2, .int v2), (3, .int v3)] [] (z, m) (k4 v1 v2 v3)) (hk16 : ∀ (v1 : Int32) (v2 : Int32) (v3 : Int32) (v4 : Int32) (v5 : Int32), xR G yyM_kindsOf (emi (z, m)) 16 [(0, .ref (xa G 85)), (1, .int v1), (2, .int v2), (3, .int v3), (4, .int v4), (5, .int v5)] [] (z, m) (k16 v1 v2 v3 v4 v5)) (v1 : Int32) (v2 : Int32) (v3 : Int32) (v5 : Int32) : xR G yyM_kindsOf (emi (z, m)) 96 [(0, .ref (xa G 85)), (1, .int v1), (2, .int v2), (3, .int v3), (5, .int v5)] [] (z, m) (fM_kindsOf_b96 m k4 k16 v1 v2 v3 v5) := by
  unfold fM_kindsOf_b96
  refine xR_ic 96 (1 : Int32) dM_kindsOf_96 (by decide) ?_
  refine xR_goto 97 101 dM_kindsOf_97 (by decide) ?_
  exact kM_kindsOf_b101 G z m k4 k16 hk4 hk16 v1 v2 v3 v5 (1 : Int32)
set_option maxRecDepth 100000 in
set_option maxHeartbeats 4000000 in
theorem kM_kindsOf_l16 (G : xG)   (z : xM) (m : xM) (k4 : Int32 → Int32 → Int32 → Option (Int32)) (hk4 : ∀ (v1 : Int32) (v2 : Int32) (v3 : Int32), xR G yyM_kindsOf (emi (z, m)) 4 [(0, .ref (xa G 85)), (1, .int v1), (2, .int v2), (3, .int v3)] [] (z, m) (k4 v1 v2 v3)) : ∀ (n : Nat) (v1 : Int32) (v2 : Int32) (v3 : Int32) (v4 : Int32) (v5 : Int32), xR G yyM_kindsOf (emi (z, m)) 16 [(0, .ref (xa G 85)), (1, .int v1), (2, .int v2), (3, .int v3), (4, .int v4), (5, .int v5)] [] (z, m) (fM_kindsOf_l16 m k4 n v1 v2 v3 v4 v5) := by
  intro n
  induction n with
  | zero =>
    intro v1 v2 v3 v4 v5
    rw [fM_kindsOf_l16]
    exact xR_none
  | succ n ih =>
    intro v1 v2 v3 v4 v5
    rw [fM_kindsOf_l16]
    refine xR_il 16 5 dM_kindsOf_16 rfl ?_
    refine xR_aln 18 0 dM_kindsOf_18 rfl rfl ?_
    refine xR_getf 19 xcf7 0 85 (by decide) (by decide) rfl (v := .ref (xa G 86)) rfl fl_RX9_7 dM_kindsOf_19 ?_
    refine xR_bp 22 (61 : Int32) dM_kindsOf_22 (by decide) ?_
    refine xR_iald 24 86 (by decide) rfl dM_kindsOf_24 ?_
    refine xR_icge 25 109 dM_kindsOf_25 (by decide) ?_ ?_
    · refine xR_iln 109 2 dM_kindsOf_109 rfl rfl ?_
      refine xR_il 110 4 dM_kindsOf_110 rfl ?_
      refine xR_ifeq 112 121 dM_kindsOf_112 (by decide) ?_ ?_
      · refine xR_ic 121 (0 : Int32) dM_kindsOf_121 (by decide) ?_
        exact xR_sub [0, 1, 3] rfl (kM_kindsOf_b122 G z m k4 hk4 v1 v3 (0 : Int32) v2)
      · refine xR_ic 115 (1 : Int32) dM_kindsOf_115 (by decide) ?_
        refine xR_iln 116 3 dM_kindsOf_116 rfl rfl ?_
        refine xR_ishl 117 dM_kindsOf_117 ?_
        refine xR_goto 118 122 dM_kindsOf_118 (by decide) ?_
        exact xR_sub [0, 1, 3] rfl (kM_kindsOf_b122 G z m k4 hk4 v1 v3 ((1 : Int32) <<< (v3 &&& 31)) v2)
    · refine xR_bp 28 (62 : Int32) dM_kindsOf_28 (by decide) ?_
      refine xR_ic 30 (5 : Int32) dM_kindsOf_30 (by decide) ?_
      refine xR_il 31 5 dM_kindsOf_31 rfl ?_
      refine xR_imul 33 dM_kindsOf_33 ?_
      refine xR_iadd 34 dM_kindsOf_34 ?_
      refine xR_is 35 ([(6, .int ((62 : Int32) + ((5 : Int32) * v5))), (0, .ref (xa G 85)), (1, .int v1), (2, .int v2), (3, .int v3), (4, .int v4), (5, .int v5)]) dM_kindsOf_35 (by decide) rfl ?_
      refine xR_il 37 5 dM_kindsOf_37 rfl ?_
      refine xR_ifeq 39 100 dM_kindsOf_39 (by decide) ?_ ?_
      · exact xR_sub [1, 2, 3, 4, 6] rfl (kM_kindsOf_b100 G z m k4 (fM_kindsOf_l16 m k4 n) hk4 ih v1 v2 v3 v5)
      · refine xR_aln 42 1 dM_kindsOf_42 rfl rfl ?_
        refine xR_getf 43 xcf7 0 85 (by decide) (by decide) rfl (v := .ref (xa G 86)) rfl fl_RX9_7 dM_kindsOf_43 ?_
        refine xR_il 46 0 dM_kindsOf_46 rfl ?_
        refine xR_iald 48 86 (by decide) rfl dM_kindsOf_48 ?_
        refine xR_iln 49 2 dM_kindsOf_49 rfl rfl ?_
        refine xR_icne 50 96 dM_kindsOf_50 (by decide) ?_ ?_
        · exact xR_sub [1, 2, 3, 4, 6] rfl (kM_kindsOf_b96 G z m k4 (fM_kindsOf_l16 m k4 n) hk4 ih v1 v2 v3 v5)
        · refine xR_iln 53 4 dM_kindsOf_53 rfl rfl ?_
          refine xR_aln 54 1 dM_kindsOf_54 rfl rfl ?_
          refine xR_getf 55 xcf7 0 85 (by decide) (by decide) rfl (v := .ref (xa G 86)) rfl fl_RX9_7 dM_kindsOf_55 ?_
          refine xR_il 58 0 dM_kindsOf_58 rfl ?_
          refine xR_ic 60 (3 : Int32) dM_kindsOf_60 (by decide) ?_
          refine xR_iadd 61 dM_kindsOf_61 ?_
          refine xR_iald 62 86 (by decide) rfl dM_kindsOf_62 ?_
          refine xR_aln 63 1 dM_kindsOf_63 rfl rfl ?_
          refine xR_getf 64 xcf7 0 85 (by decide) (by decide) rfl (v := .ref (xa G 86)) rfl fl_RX9_7 dM_kindsOf_64 ?_
          refine xR_il 67 0 dM_kindsOf_67 rfl ?_
          refine xR_ic 69 (1 : Int32) dM_kindsOf_69 (by decide) ?_
          refine xR_iadd 70 dM_kindsOf_70 ?_
          refine xR_iald 71 86 (by decide) rfl dM_kindsOf_71 ?_
          refine xR_aln 72 1 dM_kindsOf_72 rfl rfl ?_
          refine xR_getf 73 xcf7 0 85 (by decide) (by decide) rfl (v := .ref (xa G 86)) rfl fl_RX9_7 dM_kindsOf_73 ?_
          refine xR_il 76 0 dM_kindsOf_76 rfl ?_
          refine xR_ic 78 (2 : Int32) dM_kindsOf_78 (by decide) ?_
          refine xR_iadd 79 dM_kindsOf_79 ?_
          refine xR_iald 80 86 (by decide) rfl dM_kindsOf_80 ?_
          refine xR_callSi 81 cs_M_soundOf ml_RX9_195 ⟨Nat.le_of_ble_eq_true rfl, Nat.le_of_ble_eq_true rfl⟩ [.int v3, .int (m.1 0 (((62 : Int32) + ((5 : Int32) * v5)) + (3 : Int32)).toNatClampNeg), .int (m.1 0 (((62 : Int32) + ((5 : Int32) * v5)) + (1 : Int32)).toNatClampNeg), .int (m.1 0 (((62 : Int32) + ((5 : Int32) * v5)) + (2 : Int32)).toNatClampNeg)] rfl rfl (Nat.le_of_ble_eq_true rfl) dM_kindsOf_81 (kM_soundOf G (z, m) v3 (m.1 0 (((62 : Int32) + ((5 : Int32) * v5)) + (3 : Int32)).toNatClampNeg) (m.1 0 (((62 : Int32) + ((5 : Int32) * v5)) + (1 : Int32)).toNatClampNeg) (m.1 0 (((62 : Int32) + ((5 : Int32) * v5)) + (2 : Int32)).toNatClampNeg)) (fun r81 => ?_)
          refine xR_aln 84 1 dM_kindsOf_84 rfl rfl ?_
          refine xR_getf 85 xcf7 0 85 (by decide) (by decide) rfl (v := .ref (xa G 86)) rfl fl_RX9_7 dM_kindsOf_85 ?_
          refine xR_il 88 0 dM_kindsOf_88 rfl ?_
          refine xR_ic 90 (4 : Int32) dM_kindsOf_90 (by decide) ?_
          refine xR_iadd 91 dM_kindsOf_91 ?_
          refine xR_iald 92 86 (by decide) rfl dM_kindsOf_92 ?_
          refine xR_icne 93 100 dM_kindsOf_93 (by decide) ?_ ?_
          · exact xR_sub [1, 2, 3, 4, 6] rfl (kM_kindsOf_b100 G z m k4 (fM_kindsOf_l16 m k4 n) hk4 ih v1 v2 v3 v5)
          · exact xR_sub [1, 2, 3, 4, 6] rfl (kM_kindsOf_b96 G z m k4 (fM_kindsOf_l16 m k4 n) hk4 ih v1 v2 v3 v5)
set_option maxRecDepth 100000 in
set_option maxHeartbeats 4000000 in
theorem kM_kindsOf_l4 (G : xG)   (z : xM) (m : xM)   : ∀ (n : Nat) (v1 : Int32) (v2 : Int32) (v3 : Int32), xR G yyM_kindsOf (emi (z, m)) 4 [(0, .ref (xa G 85)), (1, .int v1), (2, .int v2), (3, .int v3)] [] (z, m) (fM_kindsOf_l4 m n v1 v2 v3) := by
  intro n
  induction n with
  | zero =>
    intro v1 v2 v3
    rw [fM_kindsOf_l4]
    exact xR_none
  | succ n ih =>
    intro v1 v2 v3
    rw [fM_kindsOf_l4]
    refine xR_iln 4 3 dM_kindsOf_4 rfl rfl ?_
    refine xR_bp 5 (6 : Int32) dM_kindsOf_5 (by decide) ?_
    refine xR_icge 7 130 dM_kindsOf_7 (by decide) ?_ ?_
    · refine xR_iln 130 2 dM_kindsOf_130 rfl rfl ?_
      exact xR_iret 131 rfl rfl dM_kindsOf_131
    · refine xR_ic 10 (1 : Int32) dM_kindsOf_10 (by decide) ?_
      refine xR_is 11 ([(4, .int (1 : Int32)), (0, .ref (xa G 85)), (1, .int v1), (2, .int v2), (3, .int v3)]) dM_kindsOf_11 (by decide) rfl ?_
      refine xR_ic 13 (0 : Int32) dM_kindsOf_13 (by decide) ?_
      refine xR_is 14 ([(5, .int (0 : Int32)), (4, .int (1 : Int32)), (0, .ref (xa G 85)), (1, .int v1), (2, .int v2), (3, .int v3)]) dM_kindsOf_14 (by decide) rfl ?_
      exact xR_sub [2, 3, 4, 5, 1, 0] rfl (kM_kindsOf_l16 G z m (fM_kindsOf_l4 m n) ih xfu v1 v2 v3 (1 : Int32) (0 : Int32))
set_option maxRecDepth 100000 in
set_option maxHeartbeats 4000000 in
theorem kM_kindsOf (G : xG)   (z : xM) (m : xM) (v1 : Int32) : ∀ a, fM_kindsOf m v1 = some a → xCt G yyM_kindsOf [.ref (xa G 85), .int v1] (z, m) (some (.int a)) (z, m) := by
  refine xR_ct (em := (emi (z, m))) rfl (Nat.le_of_ble_eq_true rfl) ?_
  show xR G yyM_kindsOf _ 0 [(0, .ref (xa G 85)), (1, .int v1)] [] _ _
  unfold fM_kindsOf
  refine xR_ic 0 (0 : Int32) dM_kindsOf_0 (by decide) ?_
  refine xR_isn 1 ([(2, .int (0 : Int32)), (0, .ref (xa G 85)), (1, .int v1)]) dM_kindsOf_1 rfl (by decide) rfl ?_
  refine xR_ic 2 (0 : Int32) dM_kindsOf_2 (by decide) ?_
  refine xR_isn 3 ([(3, .int (0 : Int32)), (2, .int (0 : Int32)), (0, .ref (xa G 85)), (1, .int v1)]) dM_kindsOf_3 rfl (by decide) rfl ?_
  exact xR_sub [2, 3, 1, 0] rfl (kM_kindsOf_l4 G z m xfu v1 (0 : Int32) (0 : Int32))
theorem dM_is_0 : decode (xb yyM_is) 0 = .ok (.aload_n 0, 1) := by decide +kernel
theorem dM_is_1 : decode (xb yyM_is) 1 = .ok (.iload_n 1, 1) := by decide +kernel
theorem dM_is_2 : decode (xb yyM_is) 2 = .ok (.invokevirtual 84, 3) := by decide +kernel
theorem dM_is_5 : decode (xb yyM_is) 5 = .ok (.ifCond .eq 11, 3) := by decide +kernel
theorem dM_is_8 : decode (xb yyM_is) 8 = .ok (.aload_n 0, 1) := by decide +kernel
theorem dM_is_9 : decode (xb yyM_is) 9 = .ok (.iload_n 1, 1) := by decide +kernel
theorem dM_is_10 : decode (xb yyM_is) 10 = .ok (.invokevirtual 243, 3) := by decide +kernel
theorem dM_is_13 : decode (xb yyM_is) 13 = .ok (.goto 9, 3) := by decide +kernel
theorem dM_is_16 : decode (xb yyM_is) 16 = .ok (.aload_n 0, 1) := by decide +kernel
theorem dM_is_17 : decode (xb yyM_is) 17 = .ok (.bipush (-2), 2) := by decide +kernel
theorem dM_is_19 : decode (xb yyM_is) 19 = .ok (.invokevirtual 66, 3) := by decide +kernel
theorem dM_is_22 : decode (xb yyM_is) 22 = .ok (.ireturn, 1) := by decide +kernel
def fM_is  (v1 : Int32) (m : xM) : Option (Int32 × xM) := (fM_isBoard m v1).bind fun r2 => (if r2 = 0 then (fM_bad (-2 : Int32) m).bind fun r19 => some (r19.1, r19.2) else (fM_kindsOf m v1).bind fun r10 => some (r10, m))
set_option maxRecDepth 100000 in
set_option maxHeartbeats 4000000 in
theorem kM_is (G : xG)   (z : xM) (m : xM) (v1 : Int32) : ∀ a, fM_is  v1 m = some a → xCt G yyM_is [.ref (xa G 85), .int v1] (z, m) (some (.int a.1)) (z, a.2) := by
  refine xR_ct (em := (emim z)) rfl (Nat.le_of_ble_eq_true rfl) ?_
  show xR G yyM_is _ 0 [(0, .ref (xa G 85)), (1, .int v1)] [] _ _
  unfold fM_is
  refine xR_aln 0 0 dM_is_0 rfl rfl ?_
  refine xR_iln 1 1 dM_is_1 rfl rfl ?_
  refine xR_callVi 2 cv_M_isBoard ml_RX9_84 ⟨Nat.le_of_ble_eq_true rfl, Nat.le_of_ble_eq_true rfl⟩ xcf7 rfl 85 (by decide) rfl [.int v1] rfl rfl (Nat.le_of_ble_eq_true rfl) dM_is_2 (kM_isBoard G z m v1) (fun r2 => ?_)
  refine xR_ifeq 5 16 dM_is_5 (by decide) ?_ ?_
  · refine xR_aln 16 0 dM_is_16 rfl rfl ?_
    refine xR_bp 17 (-2 : Int32) dM_is_17 (by decide) ?_
    refine xR_callVim 19 cv_M_bad ml_RX9_66 ⟨Nat.le_of_ble_eq_true rfl, Nat.le_of_ble_eq_true rfl⟩ xcf7 rfl 85 (by decide) rfl [.int (-2 : Int32)] rfl rfl (Nat.le_of_ble_eq_true rfl) dM_is_19 (kM_bad G z m (-2 : Int32)) (fun r19 => ?_)
    exact xR_iret 22 rfl rfl dM_is_22
  · refine xR_aln 8 0 dM_is_8 rfl rfl ?_
    refine xR_iln 9 1 dM_is_9 rfl rfl ?_
    refine xR_callVi 10 cv_M_kindsOf ml_RX9_243 ⟨Nat.le_of_ble_eq_true rfl, Nat.le_of_ble_eq_true rfl⟩ xcf7 rfl 85 (by decide) rfl [.int v1] rfl rfl (Nat.le_of_ble_eq_true rfl) dM_is_10 (kM_kindsOf G z m v1) (fun r10 => ?_)
    refine xR_goto 13 22 dM_is_13 (by decide) ?_
    exact xR_iret 22 rfl rfl dM_is_22
theorem dM_look_0 : decode (xb yyM_look) 0 = .ok (.aload_n 0, 1) := by decide +kernel
theorem dM_look_1 : decode (xb yyM_look) 1 = .ok (.iload_n 1, 1) := by decide +kernel
theorem dM_look_2 : decode (xb yyM_look) 2 = .ok (.invokevirtual 84, 3) := by decide +kernel
theorem dM_look_5 : decode (xb yyM_look) 5 = .ok (.ifCond .ne 10, 3) := by decide +kernel
theorem dM_look_8 : decode (xb yyM_look) 8 = .ok (.aload_n 0, 1) := by decide +kernel
theorem dM_look_9 : decode (xb yyM_look) 9 = .ok (.bipush (-2), 2) := by decide +kernel
theorem dM_look_11 : decode (xb yyM_look) 11 = .ok (.invokevirtual 66, 3) := by decide +kernel
theorem dM_look_14 : decode (xb yyM_look) 14 = .ok (.ireturn, 1) := by decide +kernel
theorem dM_look_15 : decode (xb yyM_look) 15 = .ok (.aload_n 0, 1) := by decide +kernel
theorem dM_look_16 : decode (xb yyM_look) 16 = .ok (.iload_n 1, 1) := by decide +kernel
theorem dM_look_17 : decode (xb yyM_look) 17 = .ok (.invokevirtual 243, 3) := by decide +kernel
theorem dM_look_20 : decode (xb yyM_look) 20 = .ok (.istore_n 2, 1) := by decide +kernel
theorem dM_look_21 : decode (xb yyM_look) 21 = .ok (.iconst (-1), 1) := by decide +kernel
theorem dM_look_22 : decode (xb yyM_look) 22 = .ok (.istore_n 3, 1) := by decide +kernel
theorem dM_look_23 : decode (xb yyM_look) 23 = .ok (.ldc 223, 2) := by decide +kernel
theorem dM_look_25 : decode (xb yyM_look) 25 = .ok (.istore 4, 2) := by decide +kernel
theorem dM_look_27 : decode (xb yyM_look) 27 = .ok (.iconst 0, 1) := by decide +kernel
theorem dM_look_28 : decode (xb yyM_look) 28 = .ok (.istore 5, 2) := by decide +kernel
theorem dM_look_30 : decode (xb yyM_look) 30 = .ok (.iload 5, 2) := by decide +kernel
theorem dM_look_32 : decode (xb yyM_look) 32 = .ok (.bipush 40, 2) := by decide +kernel
theorem dM_look_34 : decode (xb yyM_look) 34 = .ok (.if_icmp .ge 97, 3) := by decide +kernel
theorem dM_look_37 : decode (xb yyM_look) 37 = .ok (.iload_n 2, 1) := by decide +kernel
theorem dM_look_38 : decode (xb yyM_look) 38 = .ok (.ifCond .le 93, 3) := by decide +kernel
theorem dM_look_41 : decode (xb yyM_look) 41 = .ok (.iconst 0, 1) := by decide +kernel
theorem dM_look_42 : decode (xb yyM_look) 42 = .ok (.istore 6, 2) := by decide +kernel
theorem dM_look_44 : decode (xb yyM_look) 44 = .ok (.iload 6, 2) := by decide +kernel
theorem dM_look_46 : decode (xb yyM_look) 46 = .ok (.bipush 6, 2) := by decide +kernel
theorem dM_look_48 : decode (xb yyM_look) 48 = .ok (.if_icmp .ge 40, 3) := by decide +kernel
theorem dM_look_51 : decode (xb yyM_look) 51 = .ok (.aload_n 0, 1) := by decide +kernel
theorem dM_look_52 : decode (xb yyM_look) 52 = .ok (.getfield 33, 3) := by decide +kernel
theorem dM_look_55 : decode (xb yyM_look) 55 = .ok (.iload 6, 2) := by decide +kernel
theorem dM_look_57 : decode (xb yyM_look) 57 = .ok (.iload 6, 2) := by decide +kernel
theorem dM_look_59 : decode (xb yyM_look) 59 = .ok (.iload 5, 2) := by decide +kernel
theorem dM_look_61 : decode (xb yyM_look) 61 = .ok (.bipush 10, 2) := by decide +kernel
theorem dM_look_63 : decode (xb yyM_look) 63 = .ok (.idiv, 1) := by decide +kernel
theorem dM_look_64 : decode (xb yyM_look) 64 = .ok (.aload_n 0, 1) := by decide +kernel
theorem dM_look_65 : decode (xb yyM_look) 65 = .ok (.getfield 7, 3) := by decide +kernel
theorem dM_look_68 : decode (xb yyM_look) 68 = .ok (.bipush 14, 2) := by decide +kernel
theorem dM_look_70 : decode (xb yyM_look) 70 = .ok (.iload_n 1, 1) := by decide +kernel
theorem dM_look_71 : decode (xb yyM_look) 71 = .ok (.iadd, 1) := by decide +kernel
theorem dM_look_72 : decode (xb yyM_look) 72 = .ok (.iaload, 1) := by decide +kernel
theorem dM_look_73 : decode (xb yyM_look) 73 = .ok (.iload 5, 2) := by decide +kernel
theorem dM_look_75 : decode (xb yyM_look) 75 = .ok (.bipush 10, 2) := by decide +kernel
theorem dM_look_77 : decode (xb yyM_look) 77 = .ok (.irem, 1) := by decide +kernel
theorem dM_look_78 : decode (xb yyM_look) 78 = .ok (.invokestatic 195, 3) := by decide +kernel
theorem dM_look_81 : decode (xb yyM_look) 81 = .ok (.iastore, 1) := by decide +kernel
theorem dM_look_82 : decode (xb yyM_look) 82 = .ok (.iinc 6 1, 3) := by decide +kernel
theorem dM_look_85 : decode (xb yyM_look) 85 = .ok (.goto (-41), 3) := by decide +kernel
theorem dM_look_88 : decode (xb yyM_look) 88 = .ok (.aload_n 0, 1) := by decide +kernel
theorem dM_look_89 : decode (xb yyM_look) 89 = .ok (.iload_n 2, 1) := by decide +kernel
theorem dM_look_90 : decode (xb yyM_look) 90 = .ok (.invokevirtual 238, 3) := by decide +kernel
theorem dM_look_93 : decode (xb yyM_look) 93 = .ok (.istore 6, 2) := by decide +kernel
theorem dM_look_95 : decode (xb yyM_look) 95 = .ok (.iload 6, 2) := by decide +kernel
theorem dM_look_97 : decode (xb yyM_look) 97 = .ok (.iload 4, 2) := by decide +kernel
theorem dM_look_99 : decode (xb yyM_look) 99 = .ok (.if_icmp .ge 8, 3) := by decide +kernel
theorem dM_look_102 : decode (xb yyM_look) 102 = .ok (.iload 5, 2) := by decide +kernel
theorem dM_look_104 : decode (xb yyM_look) 104 = .ok (.goto 4, 3) := by decide +kernel
theorem dM_look_107 : decode (xb yyM_look) 107 = .ok (.iload_n 3, 1) := by decide +kernel
theorem dM_look_108 : decode (xb yyM_look) 108 = .ok (.istore_n 3, 1) := by decide +kernel
theorem dM_look_109 : decode (xb yyM_look) 109 = .ok (.iload 6, 2) := by decide +kernel
theorem dM_look_111 : decode (xb yyM_look) 111 = .ok (.iload 4, 2) := by decide +kernel
theorem dM_look_113 : decode (xb yyM_look) 113 = .ok (.if_icmp .ge 8, 3) := by decide +kernel
theorem dM_look_116 : decode (xb yyM_look) 116 = .ok (.iload 6, 2) := by decide +kernel
theorem dM_look_118 : decode (xb yyM_look) 118 = .ok (.goto 5, 3) := by decide +kernel
theorem dM_look_121 : decode (xb yyM_look) 121 = .ok (.iload 4, 2) := by decide +kernel
theorem dM_look_123 : decode (xb yyM_look) 123 = .ok (.istore 4, 2) := by decide +kernel
theorem dM_look_125 : decode (xb yyM_look) 125 = .ok (.iinc 5 1, 3) := by decide +kernel
theorem dM_look_128 : decode (xb yyM_look) 128 = .ok (.goto (-98), 3) := by decide +kernel
theorem dM_look_131 : decode (xb yyM_look) 131 = .ok (.iload_n 3, 1) := by decide +kernel
theorem dM_look_132 : decode (xb yyM_look) 132 = .ok (.ireturn, 1) := by decide +kernel
def fM_look_b123 (k30 : Int32 → Int32 → Int32 → Int32 → Int32 → xM → Option (Int32 × xM)) (v1 : Int32) (v2 : Int32) (v3 : Int32) (v5 : Int32) (s0 : Int32) (m : xM) : Option (Int32 × xM) := k30 v1 v2 v3 s0 (v5 + 1) m
def fM_look_b108 (k30 : Int32 → Int32 → Int32 → Int32 → Int32 → xM → Option (Int32 × xM)) (v1 : Int32) (v2 : Int32) (v4 : Int32) (v5 : Int32) (v6 : Int32) (s0 : Int32) (m : xM) : Option (Int32 × xM) := (if v4 ≤ v6 then fM_look_b123 k30 v1 v2 s0 v5 v4 m else fM_look_b123 k30 v1 v2 s0 v5 v6 m)
def fM_look_l44 (k30 : Int32 → Int32 → Int32 → Int32 → Int32 → xM → Option (Int32 × xM)) : Nat → Int32 → Int32 → Int32 → Int32 → Int32 → Int32 → xM → Option (Int32 × xM)
  | 0, _, _, _, _, _, _, _ => none
  | n + 1, v1, v2, v3, v4, v5, v6, m => (if (6 : Int32) ≤ v6 then (fM_greatest m v2).bind fun r90 => (if v4 ≤ r90 then fM_look_b108 k30 v1 v2 v4 v5 r90 v3 m else fM_look_b108 k30 v1 v2 v4 v5 r90 v5 m) else xck 1752 ((14 : Int32) + v1) ((fM_soundOf v6 (v5 / (10 : Int32)) (m.1 0 ((14 : Int32) + v1).toNatClampNeg) (v5 - v5 / (10 : Int32) * (10 : Int32))).bind fun r78 => xck 6 v6 (fM_look_l44 k30 n v1 v2 v3 v4 v5 (v6 + 1) (xset m 5 v6.toNatClampNeg r78))))
def fM_look_l30  : Nat → Int32 → Int32 → Int32 → Int32 → Int32 → xM → Option (Int32 × xM)
  | 0, _, _, _, _, _, _ => none
  | n + 1, v1, v2, v3, v4, v5, m => (if (40 : Int32) ≤ v5 then some (v3, m) else (if v2 ≤ 0 then some (v3, m) else fM_look_l44 (fM_look_l30 n) xfu v1 v2 v3 v4 v5 (0 : Int32) m))
def fM_look  (v1 : Int32) (m : xM) : Option (Int32 × xM) := (fM_isBoard m v1).bind fun r2 => (if r2 = 0 then (fM_bad (-2 : Int32) m).bind fun r11 => some (r11.1, r11.2) else (fM_kindsOf m v1).bind fun r17 => fM_look_l30 xfu v1 r17 (-1 : Int32) (1000000 : Int32) (0 : Int32) m)
set_option maxRecDepth 100000 in
set_option maxHeartbeats 4000000 in
theorem kM_look_b123 (G : xG)   (z : xM)  (k30 : Int32 → Int32 → Int32 → Int32 → Int32 → xM → Option (Int32 × xM)) (hk30 : ∀ (v1 : Int32) (v2 : Int32) (v3 : Int32) (v4 : Int32) (v5 : Int32) (m : xM), xR G yyM_look (emim z) 30 [(0, .ref (xa G 85)), (1, .int v1), (2, .int v2), (3, .int v3), (4, .int v4), (5, .int v5)] [] (z, m) (k30 v1 v2 v3 v4 v5 m)) (v1 : Int32) (v2 : Int32) (v3 : Int32) (v5 : Int32) (s0 : Int32) (m : xM) : xR G yyM_look (emim z) 123 [(0, .ref (xa G 85)), (1, .int v1), (2, .int v2), (3, .int v3), (5, .int v5)] [.int s0] (z, m) (fM_look_b123 k30 v1 v2 v3 v5 s0 m) := by
  unfold fM_look_b123
  refine xR_is 123 ([(4, .int s0), (0, .ref (xa G 85)), (1, .int v1), (2, .int v2), (3, .int v3), (5, .int v5)]) dM_look_123 (by decide) rfl ?_
  refine xR_iinc 125 5 (v5 + 1) ([(5, .int (v5 + 1)), (4, .int s0), (0, .ref (xa G 85)), (1, .int v1), (2, .int v2), (3, .int v3)]) dM_look_125 rfl rfl (by decide) rfl ?_
  refine xR_goto 128 30 dM_look_128 (by decide) ?_
  exact xR_sub [2, 3, 4, 5, 1, 0] rfl (hk30 v1 v2 v3 s0 (v5 + 1) m)
set_option maxRecDepth 100000 in
set_option maxHeartbeats 4000000 in
theorem kM_look_b108 (G : xG)   (z : xM)  (k30 : Int32 → Int32 → Int32 → Int32 → Int32 → xM → Option (Int32 × xM)) (hk30 : ∀ (v1 : Int32) (v2 : Int32) (v3 : Int32) (v4 : Int32) (v5 : Int32) (m : xM), xR G yyM_look (emim z) 30 [(0, .ref (xa G 85)), (1, .int v1), (2, .int v2), (3, .int v3), (4, .int v4), (5, .int v5)] [] (z, m) (k30 v1 v2 v3 v4 v5 m)) (v1 : Int32) (v2 : Int32) (v4 : Int32) (v5 : Int32) (v6 : Int32) (s0 : Int32) (m : xM) : xR G yyM_look (emim z) 108 [(0, .ref (xa G 85)), (1, .int v1), (2, .int v2), (4, .int v4), (5, .int v5), (6, .int v6)] [.int s0] (z, m) (fM_look_b108 k30 v1 v2 v4 v5 v6 s0 m) := by
  unfold fM_look_b108
  refine xR_isn 108 ([(3, .int s0), (0, .ref (xa G 85)), (1, .int v1), (2, .int v2), (4, .int v4), (5, .int v5), (6, .int v6)]) dM_look_108 rfl (by decide) rfl ?_
  refine xR_il 109 6 dM_look_109 rfl ?_
  refine xR_il 111 4 dM_look_111 rfl ?_
  refine xR_icge 113 121 dM_look_113 (by decide) ?_ ?_
  · refine xR_il 121 4 dM_look_121 rfl ?_
    exact xR_sub [1, 2, 3, 0, 5] rfl (kM_look_b123 G z k30 hk30 v1 v2 s0 v5 v4 m)
  · refine xR_il 116 6 dM_look_116 rfl ?_
    refine xR_goto 118 123 dM_look_118 (by decide) ?_
    exact xR_sub [1, 2, 3, 0, 5] rfl (kM_look_b123 G z k30 hk30 v1 v2 s0 v5 v6 m)
set_option maxRecDepth 100000 in
set_option maxHeartbeats 4000000 in
theorem kM_look_l44 (G : xG)   (z : xM)  (k30 : Int32 → Int32 → Int32 → Int32 → Int32 → xM → Option (Int32 × xM)) (hk30 : ∀ (v1 : Int32) (v2 : Int32) (v3 : Int32) (v4 : Int32) (v5 : Int32) (m : xM), xR G yyM_look (emim z) 30 [(0, .ref (xa G 85)), (1, .int v1), (2, .int v2), (3, .int v3), (4, .int v4), (5, .int v5)] [] (z, m) (k30 v1 v2 v3 v4 v5 m)) : ∀ (n : Nat) (v1 : Int32) (v2 : Int32) (v3 : Int32) (v4 : Int32) (v5 : Int32) (v6 : Int32) (m : xM), xR G yyM_look (emim z) 44 [(0, .ref (xa G 85)), (1, .int v1), (2, .int v2), (3, .int v3), (4, .int v4), (5, .int v5), (6, .int v6)] [] (z, m) (fM_look_l44 k30 n v1 v2 v3 v4 v5 v6 m) := by
  intro n
  induction n with
  | zero =>
    intro v1 v2 v3 v4 v5 v6 m
    rw [fM_look_l44]
    exact xR_none
  | succ n ih =>
    intro v1 v2 v3 v4 v5 v6 m
    rw [fM_look_l44]
    refine xR_il 44 6 dM_look_44 rfl ?_
    refine xR_bp 46 (6 : Int32) dM_look_46 (by decide) ?_
    refine xR_icge 48 88 dM_look_48 (by decide) ?_ ?_
    · refine xR_aln 88 0 dM_look_88 rfl rfl ?_
      refine xR_iln 89 2 dM_look_89 rfl rfl ?_
      refine xR_callVi 90 cv_M_greatest ml_RX9_238 ⟨Nat.le_of_ble_eq_true rfl, Nat.le_of_ble_eq_true rfl⟩ xcf7 rfl 85 (by decide) rfl [.int v2] rfl rfl (Nat.le_of_ble_eq_true rfl) dM_look_90 (kM_greatest G z m v2) (fun r90 => ?_)
      refine xR_is 93 ([(6, .int r90), (0, .ref (xa G 85)), (1, .int v1), (2, .int v2), (3, .int v3), (4, .int v4), (5, .int v5)]) dM_look_93 (by decide) rfl ?_
      refine xR_il 95 0 dM_look_95 rfl ?_
      refine xR_il 97 5 dM_look_97 rfl ?_
      refine xR_icge 99 107 dM_look_99 (by decide) ?_ ?_
      · refine xR_iln 107 4 dM_look_107 rfl rfl ?_
        exact xR_sub [1, 2, 3, 5, 6, 0] rfl (kM_look_b108 G z k30 hk30 v1 v2 v4 v5 r90 v3 m)
      · refine xR_il 102 6 dM_look_102 rfl ?_
        refine xR_goto 104 108 dM_look_104 (by decide) ?_
        exact xR_sub [1, 2, 3, 5, 6, 0] rfl (kM_look_b108 G z k30 hk30 v1 v2 v4 v5 r90 v5 m)
    · refine xR_aln 51 0 dM_look_51 rfl rfl ?_
      refine xR_getf 52 xcf7 11 85 (by decide) (by decide) rfl (v := .ref (xa G 91)) rfl fl_RX9_33 dM_look_52 ?_
      refine xR_il 55 6 dM_look_55 rfl ?_
      refine xR_il 57 6 dM_look_57 rfl ?_
      refine xR_il 59 5 dM_look_59 rfl ?_
      refine xR_bp 61 (10 : Int32) dM_look_61 (by decide) ?_
      refine xR_idiv 63 dM_look_63 (by decide) ?_
      refine xR_aln 64 0 dM_look_64 rfl rfl ?_
      refine xR_getf 65 xcf7 0 85 (by decide) (by decide) rfl (v := .ref (xa G 86)) rfl fl_RX9_7 dM_look_65 ?_
      refine xR_bp 68 (14 : Int32) dM_look_68 (by decide) ?_
      refine xR_iln 70 1 dM_look_70 rfl rfl ?_
      refine xR_iadd 71 dM_look_71 ?_
      refine xR_iald 72 86 (by decide) rfl dM_look_72 ?_
      refine xR_il 73 5 dM_look_73 rfl ?_
      refine xR_bp 75 (10 : Int32) dM_look_75 (by decide) ?_
      refine xR_irem 77 dM_look_77 (by decide) ?_
      refine xR_callSi 78 cs_M_soundOf ml_RX9_195 ⟨Nat.le_of_ble_eq_true rfl, Nat.le_of_ble_eq_true rfl⟩ [.int v6, .int (v5 / (10 : Int32)), .int (m.1 0 ((14 : Int32) + v1).toNatClampNeg), .int (v5 - v5 / (10 : Int32) * (10 : Int32))] rfl rfl (Nat.le_of_ble_eq_true rfl) dM_look_78 (kM_soundOf G (z, m) v6 (v5 / (10 : Int32)) (m.1 0 ((14 : Int32) + v1).toNatClampNeg) (v5 - v5 / (10 : Int32) * (10 : Int32))) (fun r78 => ?_)
      refine xR_iast 81 91 (by decide) rfl (z, (xset m 5 v6.toNatClampNeg r78)) xW_m5 dM_look_81 ?_
      refine xR_iinc 82 6 (v6 + 1) ([(6, .int (v6 + 1)), (0, .ref (xa G 85)), (1, .int v1), (2, .int v2), (3, .int v3), (4, .int v4), (5, .int v5)]) dM_look_82 rfl rfl (by decide) rfl ?_
      refine xR_goto 85 44 dM_look_85 (by decide) ?_
      exact xR_sub [1, 2, 3, 4, 5, 6, 0] rfl (ih v1 v2 v3 v4 v5 (v6 + 1) (xset m 5 v6.toNatClampNeg r78))
set_option maxRecDepth 100000 in
set_option maxHeartbeats 4000000 in
theorem kM_look_l30 (G : xG)   (z : xM)    : ∀ (n : Nat) (v1 : Int32) (v2 : Int32) (v3 : Int32) (v4 : Int32) (v5 : Int32) (m : xM), xR G yyM_look (emim z) 30 [(0, .ref (xa G 85)), (1, .int v1), (2, .int v2), (3, .int v3), (4, .int v4), (5, .int v5)] [] (z, m) (fM_look_l30  n v1 v2 v3 v4 v5 m) := by
  intro n
  induction n with
  | zero =>
    intro v1 v2 v3 v4 v5 m
    rw [fM_look_l30]
    exact xR_none
  | succ n ih =>
    intro v1 v2 v3 v4 v5 m
    rw [fM_look_l30]
    refine xR_il 30 5 dM_look_30 rfl ?_
    refine xR_bp 32 (40 : Int32) dM_look_32 (by decide) ?_
    refine xR_icge 34 131 dM_look_34 (by decide) ?_ ?_
    · refine xR_iln 131 3 dM_look_131 rfl rfl ?_
      exact xR_iret 132 rfl rfl dM_look_132
    · refine xR_iln 37 2 dM_look_37 rfl rfl ?_
      refine xR_ifle 38 131 dM_look_38 (by decide) ?_ ?_
      · refine xR_iln 131 3 dM_look_131 rfl rfl ?_
        exact xR_iret 132 rfl rfl dM_look_132
      · refine xR_ic 41 (0 : Int32) dM_look_41 (by decide) ?_
        refine xR_is 42 ([(6, .int (0 : Int32)), (0, .ref (xa G 85)), (1, .int v1), (2, .int v2), (3, .int v3), (4, .int v4), (5, .int v5)]) dM_look_42 (by decide) rfl ?_
        exact xR_sub [1, 2, 3, 4, 5, 6, 0] rfl (kM_look_l44 G z (fM_look_l30 n) ih xfu v1 v2 v3 v4 v5 (0 : Int32) m)
set_option maxRecDepth 100000 in
set_option maxHeartbeats 4000000 in
theorem kM_look (G : xG)   (z : xM) (m : xM) (v1 : Int32) : ∀ a, fM_look  v1 m = some a → xCt G yyM_look [.ref (xa G 85), .int v1] (z, m) (some (.int a.1)) (z, a.2) := by
  refine xR_ct (em := (emim z)) rfl (Nat.le_of_ble_eq_true rfl) ?_
  show xR G yyM_look _ 0 [(0, .ref (xa G 85)), (1, .int v1)] [] _ _
  unfold fM_look
  refine xR_aln 0 0 dM_look_0 rfl rfl ?_
  refine xR_iln 1 1 dM_look_1 rfl rfl ?_
  refine xR_callVi 2 cv_M_isBoard ml_RX9_84 ⟨Nat.le_of_ble_eq_true rfl, Nat.le_of_ble_eq_true rfl⟩ xcf7 rfl 85 (by decide) rfl [.int v1] rfl rfl (Nat.le_of_ble_eq_true rfl) dM_look_2 (kM_isBoard G z m v1) (fun r2 => ?_)
  refine xR_ifne 5 15 dM_look_5 (by decide) ?_ ?_
  · refine xR_aln 15 0 dM_look_15 rfl rfl ?_
    refine xR_iln 16 1 dM_look_16 rfl rfl ?_
    refine xR_callVi 17 cv_M_kindsOf ml_RX9_243 ⟨Nat.le_of_ble_eq_true rfl, Nat.le_of_ble_eq_true rfl⟩ xcf7 rfl 85 (by decide) rfl [.int v1] rfl rfl (Nat.le_of_ble_eq_true rfl) dM_look_17 (kM_kindsOf G z m v1) (fun r17 => ?_)
    refine xR_isn 20 ([(2, .int r17), (0, .ref (xa G 85)), (1, .int v1)]) dM_look_20 rfl (by decide) rfl ?_
    refine xR_ic 21 (-1 : Int32) dM_look_21 (by decide) ?_
    refine xR_isn 22 ([(3, .int (-1 : Int32)), (2, .int r17), (0, .ref (xa G 85)), (1, .int v1)]) dM_look_22 rfl (by decide) rfl ?_
    refine xR_ldc 23 ci_RX9_223 dM_look_23 ?_
    refine xR_is 25 ([(4, .int (1000000 : Int32)), (3, .int (-1 : Int32)), (2, .int r17), (0, .ref (xa G 85)), (1, .int v1)]) dM_look_25 (by decide) rfl ?_
    refine xR_ic 27 (0 : Int32) dM_look_27 (by decide) ?_
    refine xR_is 28 ([(5, .int (0 : Int32)), (4, .int (1000000 : Int32)), (3, .int (-1 : Int32)), (2, .int r17), (0, .ref (xa G 85)), (1, .int v1)]) dM_look_28 (by decide) rfl ?_
    exact xR_sub [4, 5, 3, 2, 1, 0] rfl (kM_look_l30 G z xfu v1 r17 (-1 : Int32) (1000000 : Int32) (0 : Int32) m)
  · refine xR_aln 8 0 dM_look_8 rfl rfl ?_
    refine xR_bp 9 (-2 : Int32) dM_look_9 (by decide) ?_
    refine xR_callVim 11 cv_M_bad ml_RX9_66 ⟨Nat.le_of_ble_eq_true rfl, Nat.le_of_ble_eq_true rfl⟩ xcf7 rfl 85 (by decide) rfl [.int (-2 : Int32)] rfl rfl (Nat.le_of_ble_eq_true rfl) dM_look_11 (kM_bad G z m (-2 : Int32)) (fun r11 => ?_)
    exact xR_iret 14 rfl rfl dM_look_14
