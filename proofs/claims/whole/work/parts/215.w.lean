theorem dX12_one_0 : decode cX12_one 0 = .ok (.aload_n 0, 1) := by decide +kernel
theorem dX12_one_1 : decode cX12_one 1 = .ok (.invokevirtual 129, 3) := by decide +kernel
theorem dX12_one_4 : decode cX12_one 4 = .ok (.istore_n 1, 1) := by decide +kernel
theorem dX12_one_5 : decode cX12_one 5 = .ok (.aload_n 0, 1) := by decide +kernel
theorem dX12_one_6 : decode cX12_one 6 = .ok (.bipush 15, 2) := by decide +kernel
theorem dX12_one_8 : decode cX12_one 8 = .ok (.bipush 10, 2) := by decide +kernel
theorem dX12_one_10 : decode cX12_one 10 = .ok (.invokevirtual 121, 3) := by decide +kernel
theorem dX12_one_13 : decode cX12_one 13 = .ok (.istore_n 2, 1) := by decide +kernel
theorem dX12_one_14 : decode cX12_one 14 = .ok (.iload_n 2, 1) := by decide +kernel
theorem dX12_one_15 : decode cX12_one 15 = .ok (.iconst 5, 1) := by decide +kernel
theorem dX12_one_16 : decode cX12_one 16 = .ok (.if_icmp .gt 14, 3) := by decide +kernel
theorem dX12_one_19 : decode cX12_one 19 = .ok (.iload_n 2, 1) := by decide +kernel
theorem dX12_one_20 : decode cX12_one 20 = .ok (.iconst 3, 1) := by decide +kernel
theorem dX12_one_21 : decode cX12_one 21 = .ok (.if_icmp .ne 14, 3) := by decide +kernel
theorem dX12_one_24 : decode cX12_one 24 = .ok (.iload_n 1, 1) := by decide +kernel
theorem dX12_one_25 : decode cX12_one 25 = .ok (.bipush 32, 2) := by decide +kernel
theorem dX12_one_27 : decode cX12_one 27 = .ok (.if_icmp .ne 8, 3) := by decide +kernel
theorem dX12_one_30 : decode cX12_one 30 = .ok (.aload_n 0, 1) := by decide +kernel
theorem dX12_one_31 : decode cX12_one 31 = .ok (.invokevirtual 158, 3) := by decide +kernel
theorem dX12_one_34 : decode cX12_one 34 = .ok (.return_, 1) := by decide +kernel
theorem dX12_one_35 : decode cX12_one 35 = .ok (.aload_n 0, 1) := by decide +kernel
theorem dX12_one_36 : decode cX12_one 36 = .ok (.aload_n 0, 1) := by decide +kernel
theorem dX12_one_37 : decode cX12_one 37 = .ok (.bipush 9, 2) := by decide +kernel
theorem dX12_one_39 : decode cX12_one 39 = .ok (.iconst 5, 1) := by decide +kernel
theorem dX12_one_40 : decode cX12_one 40 = .ok (.invokevirtual 121, 3) := by decide +kernel
theorem dX12_one_43 : decode cX12_one 43 = .ok (.invokevirtual 161, 3) := by decide +kernel
theorem dX12_one_46 : decode cX12_one 46 = .ok (.iload_n 1, 1) := by decide +kernel
theorem dX12_one_47 : decode cX12_one 47 = .ok (.invokestatic 138, 3) := by decide +kernel
theorem dX12_one_50 : decode cX12_one 50 = .ok (.lstore_n 3, 1) := by decide +kernel
theorem dX12_one_51 : decode cX12_one 51 = .ok (.lconst 0, 1) := by decide +kernel
theorem dX12_one_52 : decode cX12_one 52 = .ok (.lstore 5, 2) := by decide +kernel
theorem dX12_one_54 : decode cX12_one 54 = .ok (.iload_n 2, 1) := by decide +kernel
theorem dX12_one_55 : decode cX12_one 55 = .ok (.ifCond .ne 36, 3) := by decide +kernel
theorem dX12_one_58 : decode cX12_one 58 = .ok (.iconst 0, 1) := by decide +kernel
theorem dX12_one_59 : decode cX12_one 59 = .ok (.istore 7, 2) := by decide +kernel
theorem dX12_one_61 : decode cX12_one 61 = .ok (.iload 7, 2) := by decide +kernel
theorem dX12_one_63 : decode cX12_one 63 = .ok (.iload_n 1, 1) := by decide +kernel
theorem dX12_one_64 : decode cX12_one 64 = .ok (.if_icmp .ge 27, 3) := by decide +kernel
theorem dX12_one_67 : decode cX12_one 67 = .ok (.lload 5, 2) := by decide +kernel
theorem dX12_one_69 : decode cX12_one 69 = .ok (.lload_n 3, 1) := by decide +kernel
theorem dX12_one_70 : decode cX12_one 70 = .ok (.iload 7, 2) := by decide +kernel
theorem dX12_one_72 : decode cX12_one 72 = .ok (.lshr, 1) := by decide +kernel
theorem dX12_one_73 : decode cX12_one 73 = .ok (.lconst 1, 1) := by decide +kernel
theorem dX12_one_74 : decode cX12_one 74 = .ok (.land, 1) := by decide +kernel
theorem dX12_one_75 : decode cX12_one 75 = .ok (.iload_n 1, 1) := by decide +kernel
theorem dX12_one_76 : decode cX12_one 76 = .ok (.iconst 1, 1) := by decide +kernel
theorem dX12_one_77 : decode cX12_one 77 = .ok (.isub, 1) := by decide +kernel
theorem dX12_one_78 : decode cX12_one 78 = .ok (.iload 7, 2) := by decide +kernel
theorem dX12_one_80 : decode cX12_one 80 = .ok (.isub, 1) := by decide +kernel
theorem dX12_one_81 : decode cX12_one 81 = .ok (.lshl, 1) := by decide +kernel
theorem dX12_one_82 : decode cX12_one 82 = .ok (.lor, 1) := by decide +kernel
theorem dX12_one_83 : decode cX12_one 83 = .ok (.lstore 5, 2) := by decide +kernel
theorem dX12_one_85 : decode cX12_one 85 = .ok (.iinc 7 1, 3) := by decide +kernel
theorem dX12_one_88 : decode cX12_one 88 = .ok (.goto (-27), 3) := by decide +kernel
theorem dX12_one_91 : decode cX12_one 91 = .ok (.iload_n 2, 1) := by decide +kernel
theorem dX12_one_92 : decode cX12_one 92 = .ok (.ifCond .le 74, 3) := by decide +kernel
theorem dX12_one_95 : decode cX12_one 95 = .ok (.iload_n 2, 1) := by decide +kernel
theorem dX12_one_96 : decode cX12_one 96 = .ok (.iconst 4, 1) := by decide +kernel
theorem dX12_one_97 : decode cX12_one 97 = .ok (.if_icmp .ge 69, 3) := by decide +kernel
theorem dX12_one_100 : decode cX12_one 100 = .ok (.iconst 1, 1) := by decide +kernel
theorem dX12_one_101 : decode cX12_one 101 = .ok (.iload_n 2, 1) := by decide +kernel
theorem dX12_one_102 : decode cX12_one 102 = .ok (.ishl, 1) := by decide +kernel
theorem dX12_one_103 : decode cX12_one 103 = .ok (.istore 7, 2) := by decide +kernel
theorem dX12_one_105 : decode cX12_one 105 = .ok (.iconst 0, 1) := by decide +kernel
theorem dX12_one_106 : decode cX12_one 106 = .ok (.istore 8, 2) := by decide +kernel
theorem dX12_one_108 : decode cX12_one 108 = .ok (.iload 8, 2) := by decide +kernel
theorem dX12_one_110 : decode cX12_one 110 = .ok (.iload_n 1, 1) := by decide +kernel
theorem dX12_one_111 : decode cX12_one 111 = .ok (.bipush 8, 2) := by decide +kernel
theorem dX12_one_113 : decode cX12_one 113 = .ok (.idiv, 1) := by decide +kernel
theorem dX12_one_114 : decode cX12_one 114 = .ok (.if_icmp .ge 52, 3) := by decide +kernel
theorem dX12_one_117 : decode cX12_one 117 = .ok (.iload 8, 2) := by decide +kernel
theorem dX12_one_119 : decode cX12_one 119 = .ok (.iload 7, 2) := by decide +kernel
theorem dX12_one_121 : decode cX12_one 121 = .ok (.idiv, 1) := by decide +kernel
theorem dX12_one_122 : decode cX12_one 122 = .ok (.iload 7, 2) := by decide +kernel
theorem dX12_one_124 : decode cX12_one 124 = .ok (.imul, 1) := by decide +kernel
theorem dX12_one_125 : decode cX12_one 125 = .ok (.iload 7, 2) := by decide +kernel
theorem dX12_one_127 : decode cX12_one 127 = .ok (.iadd, 1) := by decide +kernel
theorem dX12_one_128 : decode cX12_one 128 = .ok (.iconst 1, 1) := by decide +kernel
theorem dX12_one_129 : decode cX12_one 129 = .ok (.isub, 1) := by decide +kernel
theorem dX12_one_130 : decode cX12_one 130 = .ok (.iload 8, 2) := by decide +kernel
theorem dX12_one_132 : decode cX12_one 132 = .ok (.iload 7, 2) := by decide +kernel
theorem dX12_one_134 : decode cX12_one 134 = .ok (.irem, 1) := by decide +kernel
theorem dX12_one_135 : decode cX12_one 135 = .ok (.isub, 1) := by decide +kernel
theorem dX12_one_136 : decode cX12_one 136 = .ok (.istore 9, 2) := by decide +kernel
theorem dX12_one_138 : decode cX12_one 138 = .ok (.lload 5, 2) := by decide +kernel
theorem dX12_one_140 : decode cX12_one 140 = .ok (.lload_n 3, 1) := by decide +kernel
theorem dX12_one_141 : decode cX12_one 141 = .ok (.bipush 8, 2) := by decide +kernel
theorem dX12_one_143 : decode cX12_one 143 = .ok (.iload 8, 2) := by decide +kernel
theorem dX12_one_145 : decode cX12_one 145 = .ok (.imul, 1) := by decide +kernel
theorem dX12_one_146 : decode cX12_one 146 = .ok (.lshr, 1) := by decide +kernel
theorem dX12_one_147 : decode cX12_one 147 = .ok (.ldc2_w 189, 3) := by decide +kernel
theorem dX12_one_150 : decode cX12_one 150 = .ok (.land, 1) := by decide +kernel
theorem dX12_one_151 : decode cX12_one 151 = .ok (.bipush 8, 2) := by decide +kernel
theorem dX12_one_153 : decode cX12_one 153 = .ok (.iload 9, 2) := by decide +kernel
theorem dX12_one_155 : decode cX12_one 155 = .ok (.imul, 1) := by decide +kernel
theorem dX12_one_156 : decode cX12_one 156 = .ok (.lshl, 1) := by decide +kernel
theorem dX12_one_157 : decode cX12_one 157 = .ok (.lor, 1) := by decide +kernel
theorem dX12_one_158 : decode cX12_one 158 = .ok (.lstore 5, 2) := by decide +kernel
theorem dX12_one_160 : decode cX12_one 160 = .ok (.iinc 8 1, 3) := by decide +kernel
theorem dX12_one_163 : decode cX12_one 163 = .ok (.goto (-55), 3) := by decide +kernel
theorem dX12_one_166 : decode cX12_one 166 = .ok (.iload_n 2, 1) := by decide +kernel
theorem dX12_one_167 : decode cX12_one 167 = .ok (.iconst 4, 1) := by decide +kernel
theorem dX12_one_168 : decode cX12_one 168 = .ok (.if_icmp .ne 37, 3) := by decide +kernel
theorem dX12_one_171 : decode cX12_one 171 = .ok (.iload_n 1, 1) := by decide +kernel
theorem dX12_one_172 : decode cX12_one 172 = .ok (.iconst 1, 1) := by decide +kernel
theorem dX12_one_173 : decode cX12_one 173 = .ok (.isub, 1) := by decide +kernel
theorem dX12_one_174 : decode cX12_one 174 = .ok (.istore 7, 2) := by decide +kernel
theorem dX12_one_176 : decode cX12_one 176 = .ok (.iload 7, 2) := by decide +kernel
theorem dX12_one_178 : decode cX12_one 178 = .ok (.ifCond .lt 18, 3) := by decide +kernel
theorem dX12_one_181 : decode cX12_one 181 = .ok (.lload_n 3, 1) := by decide +kernel
theorem dX12_one_182 : decode cX12_one 182 = .ok (.iload 7, 2) := by decide +kernel
theorem dX12_one_184 : decode cX12_one 184 = .ok (.invokestatic 68, 3) := by decide +kernel
theorem dX12_one_187 : decode cX12_one 187 = .ok (.ifCond .ne 9, 3) := by decide +kernel
theorem dX12_one_190 : decode cX12_one 190 = .ok (.iinc 7 (-1), 3) := by decide +kernel
theorem dX12_one_193 : decode cX12_one 193 = .ok (.goto (-17), 3) := by decide +kernel
theorem dX12_one_196 : decode cX12_one 196 = .ok (.iload_n 1, 1) := by decide +kernel
theorem dX12_one_197 : decode cX12_one 197 = .ok (.iconst 1, 1) := by decide +kernel
theorem dX12_one_198 : decode cX12_one 198 = .ok (.isub, 1) := by decide +kernel
theorem dX12_one_199 : decode cX12_one 199 = .ok (.iload 7, 2) := by decide +kernel
theorem dX12_one_201 : decode cX12_one 201 = .ok (.isub, 1) := by decide +kernel
theorem dX12_one_202 : decode cX12_one 202 = .ok (.i2l, 1) := by decide +kernel
theorem dX12_one_203 : decode cX12_one 203 = .ok (.lstore 5, 2) := by decide +kernel
theorem dX12_one_205 : decode cX12_one 205 = .ok (.iload_n 2, 1) := by decide +kernel
theorem dX12_one_206 : decode cX12_one 206 = .ok (.iconst 5, 1) := by decide +kernel
theorem dX12_one_207 : decode cX12_one 207 = .ok (.if_icmp .ne 44, 3) := by decide +kernel
theorem dX12_one_210 : decode cX12_one 210 = .ok (.iload_n 1, 1) := by decide +kernel
theorem dX12_one_211 : decode cX12_one 211 = .ok (.iconst 2, 1) := by decide +kernel
theorem dX12_one_212 : decode cX12_one 212 = .ok (.isub, 1) := by decide +kernel
theorem dX12_one_213 : decode cX12_one 213 = .ok (.istore 7, 2) := by decide +kernel
theorem dX12_one_215 : decode cX12_one 215 = .ok (.iload 7, 2) := by decide +kernel
theorem dX12_one_217 : decode cX12_one 217 = .ok (.ifCond .lt 25, 3) := by decide +kernel
theorem dX12_one_220 : decode cX12_one 220 = .ok (.lload_n 3, 1) := by decide +kernel
theorem dX12_one_221 : decode cX12_one 221 = .ok (.iload 7, 2) := by decide +kernel
theorem dX12_one_223 : decode cX12_one 223 = .ok (.invokestatic 68, 3) := by decide +kernel
theorem dX12_one_226 : decode cX12_one 226 = .ok (.lload_n 3, 1) := by decide +kernel
theorem dX12_one_227 : decode cX12_one 227 = .ok (.iload_n 1, 1) := by decide +kernel
theorem dX12_one_228 : decode cX12_one 228 = .ok (.iconst 1, 1) := by decide +kernel
theorem dX12_one_229 : decode cX12_one 229 = .ok (.isub, 1) := by decide +kernel
theorem dX12_one_230 : decode cX12_one 230 = .ok (.invokestatic 68, 3) := by decide +kernel
theorem dX12_one_233 : decode cX12_one 233 = .ok (.if_icmp .ne 9, 3) := by decide +kernel
theorem dX12_one_236 : decode cX12_one 236 = .ok (.iinc 7 (-1), 3) := by decide +kernel
theorem dX12_one_239 : decode cX12_one 239 = .ok (.goto (-24), 3) := by decide +kernel
theorem dX12_one_242 : decode cX12_one 242 = .ok (.iload_n 1, 1) := by decide +kernel
theorem dX12_one_243 : decode cX12_one 243 = .ok (.iconst 2, 1) := by decide +kernel
theorem dX12_one_244 : decode cX12_one 244 = .ok (.isub, 1) := by decide +kernel
theorem dX12_one_245 : decode cX12_one 245 = .ok (.iload 7, 2) := by decide +kernel
theorem dX12_one_247 : decode cX12_one 247 = .ok (.isub, 1) := by decide +kernel
theorem dX12_one_248 : decode cX12_one 248 = .ok (.i2l, 1) := by decide +kernel
theorem dX12_one_249 : decode cX12_one 249 = .ok (.lstore 5, 2) := by decide +kernel
theorem dX12_one_251 : decode cX12_one 251 = .ok (.aload_n 0, 1) := by decide +kernel
theorem dX12_one_252 : decode cX12_one 252 = .ok (.aload_n 0, 1) := by decide +kernel
theorem dX12_one_253 : decode cX12_one 253 = .ok (.iconst 4, 1) := by decide +kernel
theorem dX12_one_254 : decode cX12_one 254 = .ok (.iconst 0, 1) := by decide +kernel
theorem dX12_one_255 : decode cX12_one 255 = .ok (.invokevirtual 121, 3) := by decide +kernel
theorem dX12_one_258 : decode cX12_one 258 = .ok (.lload 5, 2) := by decide +kernel
theorem dX12_one_260 : decode cX12_one 260 = .ok (.invokevirtual 151, 3) := by decide +kernel
theorem dX12_one_263 : decode cX12_one 263 = .ok (.return_, 1) := by decide +kernel
def F_X12_one_c30 (τ : MS) : Option (MS) := some ((F_X12_none τ))
def F_X12_one_c251 (τ : MS) (w5 : Int64) : Option (MS) := ((F_X12_f τ (4 : Int32) (0 : Int32)).bind fun v4 => ((F_X12_put τ v4 w5).bind fun v5 => some (v5)))
def F_X12_one_c242 (τ : MS) (w1 : Int32) (w7 : Int32) : Option (MS) := (F_X12_one_c251 τ ((w1 - (2 : Int32)) - w7).toInt64)
def F_X12_one_c215 : Nat → MS → Int32 → Int64 → Int32 → Option (MS)
  | 0, _, _, _, _ => none
  | n + 1, τ, w1, w3, w7 => (if w7 < 0 then (F_X12_one_c242 τ w1 w7) else (if (F_X12_bit w3 w7) = (F_X12_bit w3 (w1 - (1 : Int32))) then (F_X12_one_c215 n τ w1 w3 (w7 + (-1))) else (F_X12_one_c242 τ w1 w7)))
def F_X12_one_c205 (τ : MS) (w1 : Int32) (w2 : Int32) (w3 : Int64) (w5 : Int64) : Option (MS) := (if w2 = (5 : Int32) then (F_X12_one_c215 70 τ w1 w3 (w1 - (2 : Int32))) else (F_X12_one_c251 τ w5))
def F_X12_one_c196 (τ : MS) (w1 : Int32) (w2 : Int32) (w3 : Int64) (w7 : Int32) : Option (MS) := (F_X12_one_c205 τ w1 w2 w3 ((w1 - (1 : Int32)) - w7).toInt64)
def F_X12_one_c176 : Nat → MS → Int32 → Int32 → Int64 → Int32 → Option (MS)
  | 0, _, _, _, _, _ => none
  | n + 1, τ, w1, w2, w3, w7 => (if w7 < 0 then (F_X12_one_c196 τ w1 w2 w3 w7) else (if (F_X12_bit w3 w7) = true then (F_X12_one_c196 τ w1 w2 w3 w7) else (F_X12_one_c176 n τ w1 w2 w3 (w7 + (-1)))))
def F_X12_one_c166 (τ : MS) (w1 : Int32) (w2 : Int32) (w3 : Int64) (w5 : Int64) : Option (MS) := (if w2 = (4 : Int32) then (F_X12_one_c176 70 τ w1 w2 w3 (w1 - (1 : Int32))) else (F_X12_one_c205 τ w1 w2 w3 w5))
def F_X12_one_c108 : Nat → MS → Int32 → Int32 → Int64 → Int64 → Int32 → Int32 → Option (MS)
  | 0, _, _, _, _, _, _, _ => none
  | n + 1, τ, w1, w2, w3, w5, w7, w8 => (if (w1 / (8 : Int32)) ≤ w8 then (F_X12_one_c166 τ w1 w2 w3 w5) else (if w7 = 0 then none else (if w7 = 0 then none else (F_X12_one_c108 n τ w1 w2 w3 (w5 ||| (j_lshl ((j_lshr w3 ((8 : Int32) * w8)) &&& (255 : Int64)) ((8 : Int32) * (((((w8 / w7) * w7) + w7) - (1 : Int32)) - (w8 - w8 / w7 * w7))))) w7 (w8 + (1))))))
def F_X12_one_c105 (τ : MS) (w1 : Int32) (w2 : Int32) (w3 : Int64) (w5 : Int64) (w7 : Int32) : Option (MS) := (F_X12_one_c108 70 τ w1 w2 w3 w5 w7 (0 : Int32))
def F_X12_one_c91 (τ : MS) (w1 : Int32) (w2 : Int32) (w3 : Int64) (w5 : Int64) : Option (MS) := (if w2 ≤ 0 then (F_X12_one_c166 τ w1 w2 w3 w5) else (if (4 : Int32) ≤ w2 then (F_X12_one_c166 τ w1 w2 w3 w5) else (F_X12_one_c105 τ w1 w2 w3 w5 ((1 : Int32) <<< (w2 &&& 31)))))
def F_X12_one_c85 (k : MS → Int32 → Int32 → Int64 → Int64 → Int32 → Option (MS)) (τ : MS) (w1 : Int32) (w2 : Int32) (w3 : Int64) (w5 : Int64) (w7 : Int32) : Option (MS) := (k τ w1 w2 w3 w5 (w7 + (1)))
def F_X12_one_c61 : Nat → MS → Int32 → Int32 → Int64 → Int64 → Int32 → Option (MS)
  | 0, _, _, _, _, _, _ => none
  | n + 1, τ, w1, w2, w3, w5, w7 => (if w1 ≤ w7 then (F_X12_one_c91 τ w1 w2 w3 w5) else (F_X12_one_c85 (F_X12_one_c61 n) τ w1 w2 w3 (w5 ||| (j_lshl ((j_lshr w3 w7) &&& (1 : Int64)) ((w1 - (1 : Int32)) - w7))) w7))
def F_X12_one_c51 (τ : MS) (w1 : Int32) (w2 : Int32) (w3 : Int64) : Option (MS) := (if w2 = 0 then (F_X12_one_c61 70 τ w1 w2 w3 (0 : Int64) (0 : Int32)) else (F_X12_one_c91 τ w1 w2 w3 (0 : Int64)))
def F_X12_one_c35 (τ : MS) (w1 : Int32) (w2 : Int32) : Option (MS) := ((F_X12_f τ (9 : Int32) (5 : Int32)).bind fun v2 => ((F_X12_reg τ v2).bind fun v3 => (F_X12_one_c51 τ w1 w2 (F_X12_cut v3 w1))))
def F_X12_one_c5 (τ : MS) (w1 : Int32) : Option (MS) := ((F_X12_f τ (15 : Int32) (10 : Int32)).bind fun v1 => (if (5 : Int32) < v1 then (F_X12_one_c30 τ) else (if v1 = (3 : Int32) then (if w1 = (32 : Int32) then (F_X12_one_c30 τ) else (F_X12_one_c35 τ w1 v1)) else (F_X12_one_c35 τ w1 v1))))
def F_X12_one (σ : MS)  : Option (MS) := (F_X12_one_c5 σ (F_X12_width σ))
set_option maxHeartbeats 4000000 in
set_option maxRecDepth 100000 in
theorem c_X12_one (l : Launch) (z : Cx) (r : Nat → Nat) (σ : MS) (sz : Nat) (res : MS) (hf : F_X12_one σ = some res) : Met l yX12_one (wsC yX12_one cX12_one 10 none) { frames := 3, cells := 0, slots := 0, locals := 72 } (mPc z (mW z r σ) sz [.ref (r 0)]) (gM z (va_A (mW z r σ) sz) none (mW z r res)) 0 0 (va_A (mW z r σ) sz) := by
  refine mk_m_v (own := RX12) (wf := mW z r) (by decide) rfl sz _ (Nat.le_of_ble_eq_true rfl) (fun p e s m below meth c A H locs Q ls S hK hA hP hD hS hl hend => ?_)
  have hx := S.1
  have hb := S.2.1
  have hown := S.2.2.2.1
  have hts := S.2.2.2.2
  have hl : lv_has ls 10 [(0, .ref (r 0))] := hl
  have J_c30 : ∀ (τ : MS) (H : Heap) (locs : List Loc) (ls : Array Slot), F_X12_one_c30 τ = some res → va_P z.1 vwCl (mW z r τ) H → va_D A (mW z r τ) → va_S A s.heap H locs → lv_has ls 10 [(0, .ref (r 0))] → W p l e { frames := 3, cells := 0, slots := 0, locals := 72 } s m ([.ref (r 0)] : List Value).toArray below meth c H locs 0 0 Q (F0 m 30 ls []) := by
    intro τ H locs ls hf hP hD hS hl
    unfold F_X12_one_c30 at hf
    refine lv_aload_n hx hb dX12_one_30 rfl (lv_at hl 0 rfl) ?_
    refine k_X12_none S hK hA hP hD hS tl_X12_158 ⟨Nat.le_of_ble_eq_true rfl, Nat.le_of_ble_eq_true rfl⟩ hl.1 (Nat.le_of_ble_eq_true rfl) dX12_one_31 (fun H locs hP hD hS => ?_)
    exact hend (F_X12_none τ) H locs 34 ls (Option.some.inj hf) hP hD hS dX12_one_34
  have J_c251 : ∀ (τ : MS) (w5 : Int64) (H : Heap) (locs : List Loc) (ls : Array Slot), F_X12_one_c251 τ w5 = some res → va_P z.1 vwCl (mW z r τ) H → va_D A (mW z r τ) → va_S A s.heap H locs → lv_has ls 10 [(0, .ref (r 0)), (5, .long w5)] → W p l e { frames := 3, cells := 0, slots := 0, locals := 72 } s m ([.ref (r 0)] : List Value).toArray below meth c H locs 0 0 Q (F0 m 251 ls []) := by
    intro τ w5 H locs ls hf hP hD hS hl
    unfold F_X12_one_c251 at hf
    refine lv_aload_n hx hb dX12_one_251 rfl (lv_at hl 0 rfl) ?_
    refine lv_aload_n hx hb dX12_one_252 rfl (lv_at hl 0 rfl) ?_
    refine lv_iconst (v := 4) hx hb dX12_one_253 (by decide) ?_
    refine lv_iconst (v := 0) hx hb dX12_one_254 (by decide) ?_
    obtain ⟨v4, e_v4, hf⟩ := Option.bind_eq_some_iff.mp hf
    refine k_X12_f (a0 := (4 : Int32)) (a1 := (0 : Int32)) (res := v4) (hres := e_v4) S hK hP tl_X12_121 ⟨Nat.le_of_ble_eq_true rfl, Nat.le_of_ble_eq_true rfl⟩ hl.1 (Nat.le_of_ble_eq_true rfl) dX12_one_255 ?_
    refine lv_lload hx hb dX12_one_258 (lv_at hl 1 rfl) ?_
    obtain ⟨v5, e_v5, hf⟩ := Option.bind_eq_some_iff.mp hf
    refine k_X12_put (a0 := v4) (a1 := w5) (res := v5) (hres := e_v5) S hK hA hP hD hS tl_X12_151 ⟨Nat.le_of_ble_eq_true rfl, Nat.le_of_ble_eq_true rfl⟩ hl.1 (Nat.le_of_ble_eq_true rfl) dX12_one_260 (fun H locs hP hD hS => ?_)
    exact hend v5 H locs 263 ls (Option.some.inj hf) hP hD hS dX12_one_263
  have J_c242 : ∀ (τ : MS) (w1 : Int32) (w7 : Int32) (H : Heap) (locs : List Loc) (ls : Array Slot), F_X12_one_c242 τ w1 w7 = some res → va_P z.1 vwCl (mW z r τ) H → va_D A (mW z r τ) → va_S A s.heap H locs → lv_has ls 10 [(0, .ref (r 0)), (1, .int w1), (7, .int w7)] → W p l e { frames := 3, cells := 0, slots := 0, locals := 72 } s m ([.ref (r 0)] : List Value).toArray below meth c H locs 0 0 Q (F0 m 242 ls []) := by
    intro τ w1 w7 H locs ls hf hP hD hS hl
    unfold F_X12_one_c242 at hf
    refine lv_iload_n hx hb dX12_one_242 rfl (lv_at hl 1 rfl) ?_
    refine lv_iconst (v := 2) hx hb dX12_one_243 (by decide) ?_
    refine lv_isub hx hb dX12_one_244 ?_
    refine lv_iload hx hb dX12_one_245 (lv_at hl 2 rfl) ?_
    refine lv_isub hx hb dX12_one_247 ?_
    refine lv_i2l hx hb dX12_one_248 rfl ?_
    refine lv_lstore (lv' := [(5, .long ((w1 - (2 : Int32)) - w7).toInt64), (0, .ref (r 0)), (1, .int w1), (7, .int w7)]) hx hb dX12_one_249 hl (by decide) rfl (fun ls hl => ?_)
    exact J_c251 τ ((w1 - (2 : Int32)) - w7).toInt64 H locs ls hf hP hD hS (lv_sub hl [1, 0] rfl)
  have J_c215 : ∀ (n : Nat) (τ : MS) (w1 : Int32) (w3 : Int64) (w7 : Int32) (H : Heap) (locs : List Loc) (ls : Array Slot), F_X12_one_c215 n τ w1 w3 w7 = some res → va_P z.1 vwCl (mW z r τ) H → va_D A (mW z r τ) → va_S A s.heap H locs → lv_has ls 10 [(0, .ref (r 0)), (1, .int w1), (3, .long w3), (7, .int w7)] → W p l e { frames := 3, cells := 0, slots := 0, locals := 72 } s m ([.ref (r 0)] : List Value).toArray below meth c H locs 0 0 Q (F0 m 215 ls []) := by
    intro n
    induction n with
    | zero => intro τ w1 w3 w7 H locs ls hf; rw [F_X12_one_c215] at hf; cases hf
    | succ n ih =>
      intro τ w1 w3 w7 H locs ls hf hP hD hS hl
      rw [F_X12_one_c215] at hf
      refine lv_iload hx hb dX12_one_215 (lv_at hl 3 rfl) ?_
      refine lv_if_lt (tgt := 242) hx hb dX12_one_217 (by decide) (fun c_217 => ?_) (fun c_217 => ?_)
      · rw [if_pos c_217] at hf
        exact J_c242 τ w1 w7 H locs ls hf hP hD hS (lv_sub hl [0, 1, 3] rfl)
      · rw [if_neg c_217] at hf
        refine lv_lload_n hx hb dX12_one_220 rfl (lv_at hl 2 rfl) ?_
        refine lv_iload hx hb dX12_one_221 (lv_at hl 3 rfl) ?_
        refine k_X12_bit (a0 := w3) (a1 := w7) S tl_X12_68 ⟨Nat.le_of_ble_eq_true rfl, Nat.le_of_ble_eq_true rfl⟩ hl.1 (Nat.le_of_ble_eq_true rfl) dX12_one_223 ?_
        refine lv_lload_n hx hb dX12_one_226 rfl (lv_at hl 2 rfl) ?_
        refine lv_iload_n hx hb dX12_one_227 rfl (lv_at hl 1 rfl) ?_
        refine lv_iconst (v := 1) hx hb dX12_one_228 (by decide) ?_
        refine lv_isub hx hb dX12_one_229 ?_
        refine k_X12_bit (a0 := w3) (a1 := (w1 - (1 : Int32))) S tl_X12_68 ⟨Nat.le_of_ble_eq_true rfl, Nat.le_of_ble_eq_true rfl⟩ hl.1 (Nat.le_of_ble_eq_true rfl) dX12_one_230 ?_
        refine gz_cne (tgt := 242) hx hb dX12_one_233 (by decide) (fun c_233 => ?_) (fun c_233 => ?_)
        · rw [if_neg c_233] at hf
          exact J_c242 τ w1 w7 H locs ls hf hP hD hS (lv_sub hl [0, 1, 3] rfl)
        · rw [if_pos c_233] at hf
          refine lv_iinc (v := w7 + (-1)) (lv' := [(7, .int (w7 + (-1))), (0, .ref (r 0)), (1, .int w1), (3, .long w3)]) hx hb dX12_one_236 hl (k := 3) rfl rfl (by decide) rfl (fun ls hl => ?_)
          refine lv_goto (tgt := 215) hx hb dX12_one_239 (by decide) ?_
          exact ih τ w1 w3 (w7 + (-1)) H locs ls hf hP hD hS (lv_sub hl [1, 2, 3, 0] rfl)
  have J_c205 : ∀ (τ : MS) (w1 : Int32) (w2 : Int32) (w3 : Int64) (w5 : Int64) (H : Heap) (locs : List Loc) (ls : Array Slot), F_X12_one_c205 τ w1 w2 w3 w5 = some res → va_P z.1 vwCl (mW z r τ) H → va_D A (mW z r τ) → va_S A s.heap H locs → lv_has ls 10 [(0, .ref (r 0)), (1, .int w1), (2, .int w2), (3, .long w3), (5, .long w5)] → W p l e { frames := 3, cells := 0, slots := 0, locals := 72 } s m ([.ref (r 0)] : List Value).toArray below meth c H locs 0 0 Q (F0 m 205 ls []) := by
    intro τ w1 w2 w3 w5 H locs ls hf hP hD hS hl
    unfold F_X12_one_c205 at hf
    refine lv_iload_n hx hb dX12_one_205 rfl (lv_at hl 2 rfl) ?_
    refine lv_iconst (v := 5) hx hb dX12_one_206 (by decide) ?_
    refine lv_icmp_ne (tgt := 251) hx hb dX12_one_207 (by decide) (fun c_207 => ?_) (fun c_207 => ?_)
    · rw [if_neg c_207] at hf
      exact J_c251 τ w5 H locs ls hf hP hD hS (lv_sub hl [0, 4] rfl)
    · rw [if_pos c_207] at hf
      refine lv_iload_n hx hb dX12_one_210 rfl (lv_at hl 1 rfl) ?_
      refine lv_iconst (v := 2) hx hb dX12_one_211 (by decide) ?_
      refine lv_isub hx hb dX12_one_212 ?_
      refine lv_istore (lv' := [(7, .int (w1 - (2 : Int32))), (0, .ref (r 0)), (1, .int w1), (2, .int w2), (3, .long w3), (5, .long w5)]) hx hb dX12_one_213 hl (by decide) rfl (fun ls hl => ?_)
      exact J_c215 70 τ w1 w3 (w1 - (2 : Int32)) H locs ls hf hP hD hS (lv_sub hl [1, 2, 4, 0] rfl)
  have J_c196 : ∀ (τ : MS) (w1 : Int32) (w2 : Int32) (w3 : Int64) (w7 : Int32) (H : Heap) (locs : List Loc) (ls : Array Slot), F_X12_one_c196 τ w1 w2 w3 w7 = some res → va_P z.1 vwCl (mW z r τ) H → va_D A (mW z r τ) → va_S A s.heap H locs → lv_has ls 10 [(0, .ref (r 0)), (1, .int w1), (2, .int w2), (3, .long w3), (7, .int w7)] → W p l e { frames := 3, cells := 0, slots := 0, locals := 72 } s m ([.ref (r 0)] : List Value).toArray below meth c H locs 0 0 Q (F0 m 196 ls []) := by
    intro τ w1 w2 w3 w7 H locs ls hf hP hD hS hl
    unfold F_X12_one_c196 at hf
    refine lv_iload_n hx hb dX12_one_196 rfl (lv_at hl 1 rfl) ?_
    refine lv_iconst (v := 1) hx hb dX12_one_197 (by decide) ?_
    refine lv_isub hx hb dX12_one_198 ?_
    refine lv_iload hx hb dX12_one_199 (lv_at hl 4 rfl) ?_
    refine lv_isub hx hb dX12_one_201 ?_
    refine lv_i2l hx hb dX12_one_202 rfl ?_
    refine lv_lstore (lv' := [(5, .long ((w1 - (1 : Int32)) - w7).toInt64), (0, .ref (r 0)), (1, .int w1), (2, .int w2), (3, .long w3), (7, .int w7)]) hx hb dX12_one_203 hl (by decide) rfl (fun ls hl => ?_)
    exact J_c205 τ w1 w2 w3 ((w1 - (1 : Int32)) - w7).toInt64 H locs ls hf hP hD hS (lv_sub hl [1, 2, 3, 4, 0] rfl)
  have J_c176 : ∀ (n : Nat) (τ : MS) (w1 : Int32) (w2 : Int32) (w3 : Int64) (w7 : Int32) (H : Heap) (locs : List Loc) (ls : Array Slot), F_X12_one_c176 n τ w1 w2 w3 w7 = some res → va_P z.1 vwCl (mW z r τ) H → va_D A (mW z r τ) → va_S A s.heap H locs → lv_has ls 10 [(0, .ref (r 0)), (1, .int w1), (2, .int w2), (3, .long w3), (7, .int w7)] → W p l e { frames := 3, cells := 0, slots := 0, locals := 72 } s m ([.ref (r 0)] : List Value).toArray below meth c H locs 0 0 Q (F0 m 176 ls []) := by
    intro n
    induction n with
    | zero => intro τ w1 w2 w3 w7 H locs ls hf; rw [F_X12_one_c176] at hf; cases hf
    | succ n ih =>
      intro τ w1 w2 w3 w7 H locs ls hf hP hD hS hl
      rw [F_X12_one_c176] at hf
      refine lv_iload hx hb dX12_one_176 (lv_at hl 4 rfl) ?_
      refine lv_if_lt (tgt := 196) hx hb dX12_one_178 (by decide) (fun c_178 => ?_) (fun c_178 => ?_)
      · rw [if_pos c_178] at hf
        exact J_c196 τ w1 w2 w3 w7 H locs ls hf hP hD hS (lv_sub hl [0, 1, 2, 3, 4] rfl)
      · rw [if_neg c_178] at hf
        refine lv_lload_n hx hb dX12_one_181 rfl (lv_at hl 3 rfl) ?_
        refine lv_iload hx hb dX12_one_182 (lv_at hl 4 rfl) ?_
        refine k_X12_bit (a0 := w3) (a1 := w7) S tl_X12_68 ⟨Nat.le_of_ble_eq_true rfl, Nat.le_of_ble_eq_true rfl⟩ hl.1 (Nat.le_of_ble_eq_true rfl) dX12_one_184 ?_
        refine gz_ne (tgt := 196) hx hb dX12_one_187 (by decide) (fun c_187 => ?_) (fun c_187 => ?_)
        · rw [if_pos c_187] at hf
          exact J_c196 τ w1 w2 w3 w7 H locs ls hf hP hD hS (lv_sub hl [0, 1, 2, 3, 4] rfl)
        · rw [if_neg c_187] at hf
          refine lv_iinc (v := w7 + (-1)) (lv' := [(7, .int (w7 + (-1))), (0, .ref (r 0)), (1, .int w1), (2, .int w2), (3, .long w3)]) hx hb dX12_one_190 hl (k := 4) rfl rfl (by decide) rfl (fun ls hl => ?_)
          refine lv_goto (tgt := 176) hx hb dX12_one_193 (by decide) ?_
          exact ih τ w1 w2 w3 (w7 + (-1)) H locs ls hf hP hD hS (lv_sub hl [1, 2, 3, 4, 0] rfl)
  have J_c166 : ∀ (τ : MS) (w1 : Int32) (w2 : Int32) (w3 : Int64) (w5 : Int64) (H : Heap) (locs : List Loc) (ls : Array Slot), F_X12_one_c166 τ w1 w2 w3 w5 = some res → va_P z.1 vwCl (mW z r τ) H → va_D A (mW z r τ) → va_S A s.heap H locs → lv_has ls 10 [(0, .ref (r 0)), (1, .int w1), (2, .int w2), (3, .long w3), (5, .long w5)] → W p l e { frames := 3, cells := 0, slots := 0, locals := 72 } s m ([.ref (r 0)] : List Value).toArray below meth c H locs 0 0 Q (F0 m 166 ls []) := by
    intro τ w1 w2 w3 w5 H locs ls hf hP hD hS hl
    unfold F_X12_one_c166 at hf
    refine lv_iload_n hx hb dX12_one_166 rfl (lv_at hl 2 rfl) ?_
    refine lv_iconst (v := 4) hx hb dX12_one_167 (by decide) ?_
    refine lv_icmp_ne (tgt := 205) hx hb dX12_one_168 (by decide) (fun c_168 => ?_) (fun c_168 => ?_)
    · rw [if_neg c_168] at hf
      exact J_c205 τ w1 w2 w3 w5 H locs ls hf hP hD hS (lv_sub hl [0, 1, 2, 3, 4] rfl)
    · rw [if_pos c_168] at hf
      refine lv_iload_n hx hb dX12_one_171 rfl (lv_at hl 1 rfl) ?_
      refine lv_iconst (v := 1) hx hb dX12_one_172 (by decide) ?_
      refine lv_isub hx hb dX12_one_173 ?_
      refine lv_istore (lv' := [(7, .int (w1 - (1 : Int32))), (0, .ref (r 0)), (1, .int w1), (2, .int w2), (3, .long w3), (5, .long w5)]) hx hb dX12_one_174 hl (by decide) rfl (fun ls hl => ?_)
      exact J_c176 70 τ w1 w2 w3 (w1 - (1 : Int32)) H locs ls hf hP hD hS (lv_sub hl [1, 2, 3, 4, 0] rfl)
  have J_c108 : ∀ (n : Nat) (τ : MS) (w1 : Int32) (w2 : Int32) (w3 : Int64) (w5 : Int64) (w7 : Int32) (w8 : Int32) (H : Heap) (locs : List Loc) (ls : Array Slot), F_X12_one_c108 n τ w1 w2 w3 w5 w7 w8 = some res → va_P z.1 vwCl (mW z r τ) H → va_D A (mW z r τ) → va_S A s.heap H locs → lv_has ls 10 [(0, .ref (r 0)), (1, .int w1), (2, .int w2), (3, .long w3), (5, .long w5), (7, .int w7), (8, .int w8)] → W p l e { frames := 3, cells := 0, slots := 0, locals := 72 } s m ([.ref (r 0)] : List Value).toArray below meth c H locs 0 0 Q (F0 m 108 ls []) := by
    intro n
    induction n with
    | zero => intro τ w1 w2 w3 w5 w7 w8 H locs ls hf; rw [F_X12_one_c108] at hf; cases hf
    | succ n ih =>
      intro τ w1 w2 w3 w5 w7 w8 H locs ls hf hP hD hS hl
      rw [F_X12_one_c108] at hf
      refine lv_iload hx hb dX12_one_108 (lv_at hl 6 rfl) ?_
      refine lv_iload_n hx hb dX12_one_110 rfl (lv_at hl 1 rfl) ?_
      refine lv_bipush (v := 8) hx hb dX12_one_111 (by decide) ?_
      refine lv_idiv hx hb dX12_one_113 (by decide) ?_
      refine lv_icmp_ge (tgt := 166) hx hb dX12_one_114 (by decide) (fun c_114 => ?_) (fun c_114 => ?_)
      · rw [if_pos c_114] at hf
        exact J_c166 τ w1 w2 w3 w5 H locs ls hf hP hD hS (lv_sub hl [0, 1, 2, 3, 4] rfl)
      · rw [if_neg c_114] at hf
        refine lv_iload hx hb dX12_one_117 (lv_at hl 6 rfl) ?_
        refine lv_iload hx hb dX12_one_119 (lv_at hl 5 rfl) ?_
        by_cases c_121 : w7 = 0
        · rw [if_pos c_121] at hf
          cases hf
        rw [if_neg c_121] at hf
        refine lv_idiv hx hb dX12_one_121 c_121 ?_
        refine lv_iload hx hb dX12_one_122 (lv_at hl 5 rfl) ?_
        refine lv_imul hx hb dX12_one_124 ?_
        refine lv_iload hx hb dX12_one_125 (lv_at hl 5 rfl) ?_
        refine lv_iadd hx hb dX12_one_127 ?_
        refine lv_iconst (v := 1) hx hb dX12_one_128 (by decide) ?_
        refine lv_isub hx hb dX12_one_129 ?_
        refine lv_iload hx hb dX12_one_130 (lv_at hl 6 rfl) ?_
        refine lv_iload hx hb dX12_one_132 (lv_at hl 5 rfl) ?_
        by_cases c_134 : w7 = 0
        · rw [if_pos c_134] at hf
          cases hf
        rw [if_neg c_134] at hf
        refine lv_irem hx hb dX12_one_134 c_134 ?_
        refine lv_isub hx hb dX12_one_135 ?_
        refine lv_istore (lv' := [(9, .int (((((w8 / w7) * w7) + w7) - (1 : Int32)) - (w8 - w8 / w7 * w7))), (0, .ref (r 0)), (1, .int w1), (2, .int w2), (3, .long w3), (5, .long w5), (7, .int w7), (8, .int w8)]) hx hb dX12_one_136 hl (by decide) rfl (fun ls hl => ?_)
        refine lv_lload hx hb dX12_one_138 (lv_at hl 5 rfl) ?_
        refine lv_lload_n hx hb dX12_one_140 rfl (lv_at hl 4 rfl) ?_
        refine lv_bipush (v := 8) hx hb dX12_one_141 (by decide) ?_
        refine lv_iload hx hb dX12_one_143 (lv_at hl 7 rfl) ?_
        refine lv_imul hx hb dX12_one_145 ?_
        refine lv_lshr (v := (j_lshr w3 ((8 : Int32) * w8))) hx hb dX12_one_146 rfl ?_
        refine lv_ldc2 (v := 255) hx hb hown (hts _ tk_X12_189) dX12_one_147 ?_
        refine lv_land hx hb dX12_one_150 ?_
        refine lv_bipush (v := 8) hx hb dX12_one_151 (by decide) ?_
        refine lv_iload hx hb dX12_one_153 (lv_at hl 0 rfl) ?_
        refine lv_imul hx hb dX12_one_155 ?_
        refine lv_lshl (v := (j_lshl ((j_lshr w3 ((8 : Int32) * w8)) &&& (255 : Int64)) ((8 : Int32) * (((((w8 / w7) * w7) + w7) - (1 : Int32)) - (w8 - w8 / w7 * w7))))) hx hb dX12_one_156 rfl ?_
        refine lv_lor hx hb dX12_one_157 ?_
        refine lv_lstore (lv' := [(5, .long (w5 ||| (j_lshl ((j_lshr w3 ((8 : Int32) * w8)) &&& (255 : Int64)) ((8 : Int32) * (((((w8 / w7) * w7) + w7) - (1 : Int32)) - (w8 - w8 / w7 * w7)))))), (9, .int (((((w8 / w7) * w7) + w7) - (1 : Int32)) - (w8 - w8 / w7 * w7))), (0, .ref (r 0)), (1, .int w1), (2, .int w2), (3, .long w3), (7, .int w7), (8, .int w8)]) hx hb dX12_one_158 hl (by decide) rfl (fun ls hl => ?_)
        refine lv_iinc (v := w8 + (1)) (lv' := [(8, .int (w8 + (1))), (5, .long (w5 ||| (j_lshl ((j_lshr w3 ((8 : Int32) * w8)) &&& (255 : Int64)) ((8 : Int32) * (((((w8 / w7) * w7) + w7) - (1 : Int32)) - (w8 - w8 / w7 * w7)))))), (9, .int (((((w8 / w7) * w7) + w7) - (1 : Int32)) - (w8 - w8 / w7 * w7))), (0, .ref (r 0)), (1, .int w1), (2, .int w2), (3, .long w3), (7, .int w7)]) hx hb dX12_one_160 hl (k := 7) rfl rfl (by decide) rfl (fun ls hl => ?_)
        refine lv_goto (tgt := 108) hx hb dX12_one_163 (by decide) ?_
        exact ih τ w1 w2 w3 (w5 ||| (j_lshl ((j_lshr w3 ((8 : Int32) * w8)) &&& (255 : Int64)) ((8 : Int32) * (((((w8 / w7) * w7) + w7) - (1 : Int32)) - (w8 - w8 / w7 * w7))))) w7 (w8 + (1)) H locs ls hf hP hD hS (lv_sub hl [3, 4, 5, 6, 1, 7, 0] rfl)
  have J_c105 : ∀ (τ : MS) (w1 : Int32) (w2 : Int32) (w3 : Int64) (w5 : Int64) (w7 : Int32) (H : Heap) (locs : List Loc) (ls : Array Slot), F_X12_one_c105 τ w1 w2 w3 w5 w7 = some res → va_P z.1 vwCl (mW z r τ) H → va_D A (mW z r τ) → va_S A s.heap H locs → lv_has ls 10 [(0, .ref (r 0)), (1, .int w1), (2, .int w2), (3, .long w3), (5, .long w5), (7, .int w7)] → W p l e { frames := 3, cells := 0, slots := 0, locals := 72 } s m ([.ref (r 0)] : List Value).toArray below meth c H locs 0 0 Q (F0 m 105 ls []) := by
    intro τ w1 w2 w3 w5 w7 H locs ls hf hP hD hS hl
    unfold F_X12_one_c105 at hf
    refine lv_iconst (v := 0) hx hb dX12_one_105 (by decide) ?_
    refine lv_istore (lv' := [(8, .int (0 : Int32)), (0, .ref (r 0)), (1, .int w1), (2, .int w2), (3, .long w3), (5, .long w5), (7, .int w7)]) hx hb dX12_one_106 hl (by decide) rfl (fun ls hl => ?_)
    exact J_c108 70 τ w1 w2 w3 w5 w7 (0 : Int32) H locs ls hf hP hD hS (lv_sub hl [1, 2, 3, 4, 5, 6, 0] rfl)
  have J_c91 : ∀ (τ : MS) (w1 : Int32) (w2 : Int32) (w3 : Int64) (w5 : Int64) (H : Heap) (locs : List Loc) (ls : Array Slot), F_X12_one_c91 τ w1 w2 w3 w5 = some res → va_P z.1 vwCl (mW z r τ) H → va_D A (mW z r τ) → va_S A s.heap H locs → lv_has ls 10 [(0, .ref (r 0)), (1, .int w1), (2, .int w2), (3, .long w3), (5, .long w5)] → W p l e { frames := 3, cells := 0, slots := 0, locals := 72 } s m ([.ref (r 0)] : List Value).toArray below meth c H locs 0 0 Q (F0 m 91 ls []) := by
    intro τ w1 w2 w3 w5 H locs ls hf hP hD hS hl
    unfold F_X12_one_c91 at hf
    refine lv_iload_n hx hb dX12_one_91 rfl (lv_at hl 2 rfl) ?_
    refine lv_if_le (tgt := 166) hx hb dX12_one_92 (by decide) (fun c_92 => ?_) (fun c_92 => ?_)
    · rw [if_pos c_92] at hf
      exact J_c166 τ w1 w2 w3 w5 H locs ls hf hP hD hS (lv_sub hl [0, 1, 2, 3, 4] rfl)
    · rw [if_neg c_92] at hf
      refine lv_iload_n hx hb dX12_one_95 rfl (lv_at hl 2 rfl) ?_
      refine lv_iconst (v := 4) hx hb dX12_one_96 (by decide) ?_
      refine lv_icmp_ge (tgt := 166) hx hb dX12_one_97 (by decide) (fun c_97 => ?_) (fun c_97 => ?_)
      · rw [if_pos c_97] at hf
        exact J_c166 τ w1 w2 w3 w5 H locs ls hf hP hD hS (lv_sub hl [0, 1, 2, 3, 4] rfl)
      · rw [if_neg c_97] at hf
        refine lv_iconst (v := 1) hx hb dX12_one_100 (by decide) ?_
        refine lv_iload_n hx hb dX12_one_101 rfl (lv_at hl 2 rfl) ?_
        refine lv_ishl hx hb dX12_one_102 ?_
        refine lv_istore (lv' := [(7, .int ((1 : Int32) <<< (w2 &&& 31))), (0, .ref (r 0)), (1, .int w1), (2, .int w2), (3, .long w3), (5, .long w5)]) hx hb dX12_one_103 hl (by decide) rfl (fun ls hl => ?_)
        exact J_c105 τ w1 w2 w3 w5 ((1 : Int32) <<< (w2 &&& 31)) H locs ls hf hP hD hS (lv_sub hl [1, 2, 3, 4, 5, 0] rfl)
  have J_c61 : ∀ (n : Nat) (τ : MS) (w1 : Int32) (w2 : Int32) (w3 : Int64) (w5 : Int64) (w7 : Int32) (H : Heap) (locs : List Loc) (ls : Array Slot), F_X12_one_c61 n τ w1 w2 w3 w5 w7 = some res → va_P z.1 vwCl (mW z r τ) H → va_D A (mW z r τ) → va_S A s.heap H locs → lv_has ls 10 [(0, .ref (r 0)), (1, .int w1), (2, .int w2), (3, .long w3), (5, .long w5), (7, .int w7)] → W p l e { frames := 3, cells := 0, slots := 0, locals := 72 } s m ([.ref (r 0)] : List Value).toArray below meth c H locs 0 0 Q (F0 m 61 ls []) := by
    intro n
    induction n with
    | zero => intro τ w1 w2 w3 w5 w7 H locs ls hf; rw [F_X12_one_c61] at hf; cases hf
    | succ n ih =>
      have J_c85 : ∀ (τ : MS) (w1 : Int32) (w2 : Int32) (w3 : Int64) (w5 : Int64) (w7 : Int32) (H : Heap) (locs : List Loc) (ls : Array Slot), F_X12_one_c85 (F_X12_one_c61 n) τ w1 w2 w3 w5 w7 = some res → va_P z.1 vwCl (mW z r τ) H → va_D A (mW z r τ) → va_S A s.heap H locs → lv_has ls 10 [(0, .ref (r 0)), (1, .int w1), (2, .int w2), (3, .long w3), (5, .long w5), (7, .int w7)] → W p l e { frames := 3, cells := 0, slots := 0, locals := 72 } s m ([.ref (r 0)] : List Value).toArray below meth c H locs 0 0 Q (F0 m 85 ls []) := by
        intro τ w1 w2 w3 w5 w7 H locs ls hf hP hD hS hl
        unfold F_X12_one_c85 at hf
        refine lv_iinc (v := w7 + (1)) (lv' := [(7, .int (w7 + (1))), (0, .ref (r 0)), (1, .int w1), (2, .int w2), (3, .long w3), (5, .long w5)]) hx hb dX12_one_85 hl (k := 5) rfl rfl (by decide) rfl (fun ls hl => ?_)
        refine lv_goto (tgt := 61) hx hb dX12_one_88 (by decide) ?_
        exact ih τ w1 w2 w3 w5 (w7 + (1)) H locs ls hf hP hD hS (lv_sub hl [1, 2, 3, 4, 5, 0] rfl)
      intro τ w1 w2 w3 w5 w7 H locs ls hf hP hD hS hl
      rw [F_X12_one_c61] at hf
      refine lv_iload hx hb dX12_one_61 (lv_at hl 5 rfl) ?_
      refine lv_iload_n hx hb dX12_one_63 rfl (lv_at hl 1 rfl) ?_
      refine lv_icmp_ge (tgt := 91) hx hb dX12_one_64 (by decide) (fun c_64 => ?_) (fun c_64 => ?_)
      · rw [if_pos c_64] at hf
        exact J_c91 τ w1 w2 w3 w5 H locs ls hf hP hD hS (lv_sub hl [0, 1, 2, 3, 4] rfl)
      · rw [if_neg c_64] at hf
        refine lv_lload hx hb dX12_one_67 (lv_at hl 4 rfl) ?_
        refine lv_lload_n hx hb dX12_one_69 rfl (lv_at hl 3 rfl) ?_
        refine lv_iload hx hb dX12_one_70 (lv_at hl 5 rfl) ?_
        refine lv_lshr (v := (j_lshr w3 w7)) hx hb dX12_one_72 rfl ?_
        refine lv_lconst (v := 1) hx hb dX12_one_73 (by decide) ?_
        refine lv_land hx hb dX12_one_74 ?_
        refine lv_iload_n hx hb dX12_one_75 rfl (lv_at hl 1 rfl) ?_
        refine lv_iconst (v := 1) hx hb dX12_one_76 (by decide) ?_
        refine lv_isub hx hb dX12_one_77 ?_
        refine lv_iload hx hb dX12_one_78 (lv_at hl 5 rfl) ?_
        refine lv_isub hx hb dX12_one_80 ?_
        refine lv_lshl (v := (j_lshl ((j_lshr w3 w7) &&& (1 : Int64)) ((w1 - (1 : Int32)) - w7))) hx hb dX12_one_81 rfl ?_
        refine lv_lor hx hb dX12_one_82 ?_
        refine lv_lstore (lv' := [(5, .long (w5 ||| (j_lshl ((j_lshr w3 w7) &&& (1 : Int64)) ((w1 - (1 : Int32)) - w7)))), (0, .ref (r 0)), (1, .int w1), (2, .int w2), (3, .long w3), (7, .int w7)]) hx hb dX12_one_83 hl (by decide) rfl (fun ls hl => ?_)
        exact J_c85 τ w1 w2 w3 (w5 ||| (j_lshl ((j_lshr w3 w7) &&& (1 : Int64)) ((w1 - (1 : Int32)) - w7))) w7 H locs ls hf hP hD hS (lv_sub hl [1, 2, 3, 4, 0, 5] rfl)
  have J_c51 : ∀ (τ : MS) (w1 : Int32) (w2 : Int32) (w3 : Int64) (H : Heap) (locs : List Loc) (ls : Array Slot), F_X12_one_c51 τ w1 w2 w3 = some res → va_P z.1 vwCl (mW z r τ) H → va_D A (mW z r τ) → va_S A s.heap H locs → lv_has ls 10 [(0, .ref (r 0)), (1, .int w1), (2, .int w2), (3, .long w3)] → W p l e { frames := 3, cells := 0, slots := 0, locals := 72 } s m ([.ref (r 0)] : List Value).toArray below meth c H locs 0 0 Q (F0 m 51 ls []) := by
    intro τ w1 w2 w3 H locs ls hf hP hD hS hl
    unfold F_X12_one_c51 at hf
    refine lv_lconst (v := 0) hx hb dX12_one_51 (by decide) ?_
    refine lv_lstore (lv' := [(5, .long (0 : Int64)), (0, .ref (r 0)), (1, .int w1), (2, .int w2), (3, .long w3)]) hx hb dX12_one_52 hl (by decide) rfl (fun ls hl => ?_)
    refine lv_iload_n hx hb dX12_one_54 rfl (lv_at hl 3 rfl) ?_
    refine lv_if_ne (tgt := 91) hx hb dX12_one_55 (by decide) (fun c_55 => ?_) (fun c_55 => ?_)
    · rw [if_neg c_55] at hf
      exact J_c91 τ w1 w2 w3 (0 : Int64) H locs ls hf hP hD hS (lv_sub hl [1, 2, 3, 4, 0] rfl)
    · rw [if_pos c_55] at hf
      refine lv_iconst (v := 0) hx hb dX12_one_58 (by decide) ?_
      refine lv_istore (lv' := [(7, .int (0 : Int32)), (5, .long (0 : Int64)), (0, .ref (r 0)), (1, .int w1), (2, .int w2), (3, .long w3)]) hx hb dX12_one_59 hl (by decide) rfl (fun ls hl => ?_)
      exact J_c61 70 τ w1 w2 w3 (0 : Int64) (0 : Int32) H locs ls hf hP hD hS (lv_sub hl [2, 3, 4, 5, 1, 0] rfl)
  have J_c35 : ∀ (τ : MS) (w1 : Int32) (w2 : Int32) (H : Heap) (locs : List Loc) (ls : Array Slot), F_X12_one_c35 τ w1 w2 = some res → va_P z.1 vwCl (mW z r τ) H → va_D A (mW z r τ) → va_S A s.heap H locs → lv_has ls 10 [(0, .ref (r 0)), (1, .int w1), (2, .int w2)] → W p l e { frames := 3, cells := 0, slots := 0, locals := 72 } s m ([.ref (r 0)] : List Value).toArray below meth c H locs 0 0 Q (F0 m 35 ls []) := by
    intro τ w1 w2 H locs ls hf hP hD hS hl
    unfold F_X12_one_c35 at hf
    refine lv_aload_n hx hb dX12_one_35 rfl (lv_at hl 0 rfl) ?_
    refine lv_aload_n hx hb dX12_one_36 rfl (lv_at hl 0 rfl) ?_
    refine lv_bipush (v := 9) hx hb dX12_one_37 (by decide) ?_
    refine lv_iconst (v := 5) hx hb dX12_one_39 (by decide) ?_
    obtain ⟨v2, e_v2, hf⟩ := Option.bind_eq_some_iff.mp hf
    refine k_X12_f (a0 := (9 : Int32)) (a1 := (5 : Int32)) (res := v2) (hres := e_v2) S hK hP tl_X12_121 ⟨Nat.le_of_ble_eq_true rfl, Nat.le_of_ble_eq_true rfl⟩ hl.1 (Nat.le_of_ble_eq_true rfl) dX12_one_40 ?_
    obtain ⟨v3, e_v3, hf⟩ := Option.bind_eq_some_iff.mp hf
    refine k_X12_reg (a0 := v2) (res := v3) (hres := e_v3) S hK hP tl_X12_161 ⟨Nat.le_of_ble_eq_true rfl, Nat.le_of_ble_eq_true rfl⟩ hl.1 (Nat.le_of_ble_eq_true rfl) dX12_one_43 ?_
    refine lv_iload_n hx hb dX12_one_46 rfl (lv_at hl 1 rfl) ?_
    refine k_X12_cut (a0 := v3) (a1 := w1) S tl_X12_138 ⟨Nat.le_of_ble_eq_true rfl, Nat.le_of_ble_eq_true rfl⟩ hl.1 (Nat.le_of_ble_eq_true rfl) dX12_one_47 ?_
    refine lv_lstore_n (lv' := [(3, .long (F_X12_cut v3 w1)), (0, .ref (r 0)), (1, .int w1), (2, .int w2)]) hx hb dX12_one_50 rfl hl (by decide) rfl (fun ls hl => ?_)
    exact J_c51 τ w1 w2 (F_X12_cut v3 w1) H locs ls hf hP hD hS (lv_sub hl [1, 2, 3, 0] rfl)
  have J_c5 : ∀ (τ : MS) (w1 : Int32) (H : Heap) (locs : List Loc) (ls : Array Slot), F_X12_one_c5 τ w1 = some res → va_P z.1 vwCl (mW z r τ) H → va_D A (mW z r τ) → va_S A s.heap H locs → lv_has ls 10 [(0, .ref (r 0)), (1, .int w1)] → W p l e { frames := 3, cells := 0, slots := 0, locals := 72 } s m ([.ref (r 0)] : List Value).toArray below meth c H locs 0 0 Q (F0 m 5 ls []) := by
    intro τ w1 H locs ls hf hP hD hS hl
    unfold F_X12_one_c5 at hf
    refine lv_aload_n hx hb dX12_one_5 rfl (lv_at hl 0 rfl) ?_
    refine lv_bipush (v := 15) hx hb dX12_one_6 (by decide) ?_
    refine lv_bipush (v := 10) hx hb dX12_one_8 (by decide) ?_
    obtain ⟨v1, e_v1, hf⟩ := Option.bind_eq_some_iff.mp hf
    refine k_X12_f (a0 := (15 : Int32)) (a1 := (10 : Int32)) (res := v1) (hres := e_v1) S hK hP tl_X12_121 ⟨Nat.le_of_ble_eq_true rfl, Nat.le_of_ble_eq_true rfl⟩ hl.1 (Nat.le_of_ble_eq_true rfl) dX12_one_10 ?_
    refine lv_istore_n (lv' := [(2, .int v1), (0, .ref (r 0)), (1, .int w1)]) hx hb dX12_one_13 rfl hl (by decide) rfl (fun ls hl => ?_)
    refine lv_iload_n hx hb dX12_one_14 rfl (lv_at hl 0 rfl) ?_
    refine lv_iconst (v := 5) hx hb dX12_one_15 (by decide) ?_
    refine lv_icmp_gt (tgt := 30) hx hb dX12_one_16 (by decide) (fun c_16 => ?_) (fun c_16 => ?_)
    · rw [if_pos c_16] at hf
      exact J_c30 τ H locs ls hf hP hD hS (lv_sub hl [1] rfl)
    · rw [if_neg c_16] at hf
      refine lv_iload_n hx hb dX12_one_19 rfl (lv_at hl 0 rfl) ?_
      refine lv_iconst (v := 3) hx hb dX12_one_20 (by decide) ?_
      refine lv_icmp_ne (tgt := 35) hx hb dX12_one_21 (by decide) (fun c_21 => ?_) (fun c_21 => ?_)
      · rw [if_neg c_21] at hf
        exact J_c35 τ w1 v1 H locs ls hf hP hD hS (lv_sub hl [1, 2, 0] rfl)
      · rw [if_pos c_21] at hf
        refine lv_iload_n hx hb dX12_one_24 rfl (lv_at hl 2 rfl) ?_
        refine lv_bipush (v := 32) hx hb dX12_one_25 (by decide) ?_
        refine lv_icmp_ne (tgt := 35) hx hb dX12_one_27 (by decide) (fun c_27 => ?_) (fun c_27 => ?_)
        · rw [if_neg c_27] at hf
          exact J_c35 τ w1 v1 H locs ls hf hP hD hS (lv_sub hl [1, 2, 0] rfl)
        · rw [if_pos c_27] at hf
          exact J_c30 τ H locs ls hf hP hD hS (lv_sub hl [1] rfl)
  unfold F_X12_one at hf
  refine lv_aload_n hx hb dX12_one_0 rfl (lv_at hl 0 rfl) ?_
  refine k_X12_width S hK hP tl_X12_129 ⟨Nat.le_of_ble_eq_true rfl, Nat.le_of_ble_eq_true rfl⟩ hl.1 (Nat.le_of_ble_eq_true rfl) dX12_one_1 ?_
  refine lv_istore_n (lv' := [(1, .int (F_X12_width σ)), (0, .ref (r 0))]) hx hb dX12_one_4 rfl hl (by decide) rfl (fun ls hl => ?_)
  exact J_c5 σ (F_X12_width σ) H locs ls hf hP hD hS (lv_sub hl [1, 0] rfl)
theorem k_X12_one {p : Program} {l : Launch} {e : Env} {R : Room} {s : State} {m : MethodId} {args : Array Value} {below : List Frame} {meth : Method} {c : Code} {H : Heap} {locs : List Loc} {Q : State → Prop} {cc : ByteArray} {pc : Nat} {ls : Array Slot} {rest : List Value} {own : String} {index nL : Nat} {A : Nat → Prop} {z : Cx} {r : Nat → Nat} {σ : MS} {res : MS} (hres : F_X12_one σ = some res) (S : CallFix p m c cc nL s args tbG own) (hK : va_K z.1 vwCl (cxT z) s) (hA : ∀ q, s.heap.size ≤ q → A q) (hP : va_P z.1 vwCl (mW z r σ) H) (hD : va_D A (mW z r σ)) (hS : va_S A s.heap H locs) (hl : Cond.methodLink own index yX12_one ∈ tbG) (hR : 3 + 1 ≤ R.frames ∧ 8 + (10 + 11) + 72 ≤ R.locals) (hsz : ls.size = nL) (hcat : (rest.map fun v => v.category).sum ≤ 8) (hdg : decode cc pc = .ok (.invokevirtual index, 3)) (kk : ∀ (H : Heap) (locs : List Loc), va_P z.1 vwCl (mW z r res) H → va_D A (mW z r res) → va_S A s.heap H locs → W p l e R s m args below meth c H locs 0 0 Q (F0 m (pc + 3) ls (rest))) : W p l e R s m args below meth c H locs 0 0 Q (F0 m pc ls (.ref (r 0) :: rest)) :=
  km (As := []) (ov := none) (w' := mW z r res) (q0 := 0) (ci := 11) S hK hA hP hD hS (c_X12_one l z r σ H.size _ hres) ⟨tb_cB 0 S.2.2.2.2 tc_X12_one ti_X12 hl rfl rfl (by decide +kernel) hR, S.2.2.2.2 _ tm_X12_one, S.2.2.2.2 _ te_X12_one⟩ rfl rfl rfl rfl hsz rfl hcat hdg kk

theorem dX12_goes_0 : decode cX12_goes 0 = .ok (.aload_n 0, 1) := by decide +kernel
theorem dX12_goes_1 : decode cX12_goes 1 = .ok (.getfield 22, 3) := by decide +kernel
theorem dX12_goes_4 : decode cX12_goes 4 = .ok (.iconst 2, 1) := by decide +kernel
theorem dX12_goes_5 : decode cX12_goes 5 = .ok (.lload_n 1, 1) := by decide +kernel
theorem dX12_goes_6 : decode cX12_goes 6 = .ok (.lastore, 1) := by decide +kernel
theorem dX12_goes_7 : decode cX12_goes 7 = .ok (.aload_n 0, 1) := by decide +kernel
theorem dX12_goes_8 : decode cX12_goes 8 = .ok (.iconst 1, 1) := by decide +kernel
theorem dX12_goes_9 : decode cX12_goes 9 = .ok (.putfield 37, 3) := by decide +kernel
theorem dX12_goes_12 : decode cX12_goes 12 = .ok (.return_, 1) := by decide +kernel
def F_X12_goes (σ : MS) (a0 : Int64) : MS := (mu_calls (mu_state σ (vp_updL (m_state σ) (2 : Int32).toNatClampNeg a0)) true)
set_option maxHeartbeats 4000000 in
set_option maxRecDepth 100000 in
theorem c_X12_goes (l : Launch) (z : Cx) (r : Nat → Nat) (σ : MS) (a0 : Int64) (sz : Nat) (res : MS) (hf : F_X12_goes σ a0 = res) : Met l yX12_goes (wsC yX12_goes cX12_goes 3 none) { frames := 0, cells := 0, slots := 0, locals := 0 } (mPc z (mW z r σ) sz [.ref (r 0), .long a0]) (gM z (va_A (mW z r σ) sz) none (mW z r res)) 0 0 (va_A (mW z r σ) sz) := by
  refine mk_m_v (own := RX12) (wf := mW z r) (by decide) rfl sz _ (Nat.le_of_ble_eq_true rfl) (fun p e s m below meth c A H locs Q ls S hK hA hP hD hS hl hend => ?_)
  have hx := S.1
  have hb := S.2.1
  have hown := S.2.2.2.1
  have hts := S.2.2.2.2
  have hl : lv_has ls 3 [(0, .ref (r 0)), (1, .long a0)] := hl
  unfold F_X12_goes at hf
  refine lv_aload_n hx hb dX12_goes_0 rfl (lv_at hl 0 rfl) ?_
  refine fg_X12_state S hK hP tf_X12_22 dX12_goes_1 ?_
  refine lv_iconst (v := 2) hx hb dX12_goes_4 (by decide) ?_
  refine lv_lload_n hx hb dX12_goes_5 rfl (lv_at hl 1 rfl) ?_
  refine ar_m_state (x := a0) S hK hP hD hS (show vp_in (2 : Int32) 11 by unfold vp_in; decide) dX12_goes_6 (fun H locs hP hD hS => ?_)
  refine lv_aload_n hx hb dX12_goes_7 rfl (lv_at hl 0 rfl) ?_
  refine lv_iconst (v := 1) hx hb dX12_goes_8 (by decide) ?_
  refine fp_X12_calls (v := true) S hK hP hD hS tf_X12_37 dX12_goes_9 (fun H locs hP hD hS => ?_)
  exact hend (mu_calls (mu_state σ (vp_updL (m_state σ) (2 : Int32).toNatClampNeg a0)) true) H locs 12 ls hf hP hD hS dX12_goes_12
theorem k_X12_goes {p : Program} {l : Launch} {e : Env} {R : Room} {s : State} {m : MethodId} {args : Array Value} {below : List Frame} {meth : Method} {c : Code} {H : Heap} {locs : List Loc} {Q : State → Prop} {cc : ByteArray} {pc : Nat} {ls : Array Slot} {rest : List Value} {own : String} {index nL : Nat} {A : Nat → Prop} {z : Cx} {r : Nat → Nat} {σ : MS} {a0 : Int64} (S : CallFix p m c cc nL s args tbG own) (hK : va_K z.1 vwCl (cxT z) s) (hA : ∀ q, s.heap.size ≤ q → A q) (hP : va_P z.1 vwCl (mW z r σ) H) (hD : va_D A (mW z r σ)) (hS : va_S A s.heap H locs) (hl : Cond.methodLink own index yX12_goes ∈ tbG) (hR : 0 + 1 ≤ R.frames ∧ 8 + (3 + 11) + 0 ≤ R.locals) (hsz : ls.size = nL) (hcat : (rest.map fun v => v.category).sum ≤ 8) (hdg : decode cc pc = .ok (.invokevirtual index, 3)) (kk : ∀ (H : Heap) (locs : List Loc), va_P z.1 vwCl (mW z r (F_X12_goes σ a0)) H → va_D A (mW z r (F_X12_goes σ a0)) → va_S A s.heap H locs → W p l e R s m args below meth c H locs 0 0 Q (F0 m (pc + 3) ls (rest))) : W p l e R s m args below meth c H locs 0 0 Q (F0 m pc ls (.long a0 :: .ref (r 0) :: rest)) :=
  km (As := [.long a0]) (ov := none) (w' := mW z r (F_X12_goes σ a0)) (q0 := 0) (ci := 11) S hK hA hP hD hS (c_X12_goes l z r σ a0 H.size _ rfl) ⟨tb_cB 1 S.2.2.2.2 tc_X12_goes ti_X12 hl rfl rfl (by decide +kernel) hR, S.2.2.2.2 _ tm_X12_goes, S.2.2.2.2 _ te_X12_goes⟩ rfl rfl rfl rfl hsz rfl hcat hdg kk

theorem dX12_branch_0 : decode cX12_branch 0 = .ok (.aload_n 0, 1) := by decide +kernel
theorem dX12_branch_1 : decode cX12_branch 1 = .ok (.getfield 22, 3) := by decide +kernel
theorem dX12_branch_4 : decode cX12_branch 4 = .ok (.iconst 2, 1) := by decide +kernel
theorem dX12_branch_5 : decode cX12_branch 5 = .ok (.laload, 1) := by decide +kernel
theorem dX12_branch_6 : decode cX12_branch 6 = .ok (.ldc2_w 90, 3) := by decide +kernel
theorem dX12_branch_9 : decode cX12_branch 9 = .ok (.aload_n 0, 1) := by decide +kernel
theorem dX12_branch_10 : decode cX12_branch 10 = .ok (.bipush 25, 2) := by decide +kernel
theorem dX12_branch_12 : decode cX12_branch 12 = .ok (.iconst 0, 1) := by decide +kernel
theorem dX12_branch_13 : decode cX12_branch 13 = .ok (.invokevirtual 191, 3) := by decide +kernel
theorem dX12_branch_16 : decode cX12_branch 16 = .ok (.lmul, 1) := by decide +kernel
theorem dX12_branch_17 : decode cX12_branch 17 = .ok (.ladd, 1) := by decide +kernel
theorem dX12_branch_18 : decode cX12_branch 18 = .ok (.lstore_n 1, 1) := by decide +kernel
theorem dX12_branch_19 : decode cX12_branch 19 = .ok (.aload_n 0, 1) := by decide +kernel
theorem dX12_branch_20 : decode cX12_branch 20 = .ok (.bipush 31, 2) := by decide +kernel
theorem dX12_branch_22 : decode cX12_branch 22 = .ok (.invokevirtual 118, 3) := by decide +kernel
theorem dX12_branch_25 : decode cX12_branch 25 = .ok (.ifCond .eq 20, 3) := by decide +kernel
theorem dX12_branch_28 : decode cX12_branch 28 = .ok (.aload_n 0, 1) := by decide +kernel
theorem dX12_branch_29 : decode cX12_branch 29 = .ok (.getfield 18, 3) := by decide +kernel
theorem dX12_branch_32 : decode cX12_branch 32 = .ok (.bipush 30, 2) := by decide +kernel
theorem dX12_branch_34 : decode cX12_branch 34 = .ok (.aload_n 0, 1) := by decide +kernel
theorem dX12_branch_35 : decode cX12_branch 35 = .ok (.getfield 22, 3) := by decide +kernel
theorem dX12_branch_38 : decode cX12_branch 38 = .ok (.iconst 2, 1) := by decide +kernel
theorem dX12_branch_39 : decode cX12_branch 39 = .ok (.laload, 1) := by decide +kernel
theorem dX12_branch_40 : decode cX12_branch 40 = .ok (.ldc2_w 90, 3) := by decide +kernel
theorem dX12_branch_43 : decode cX12_branch 43 = .ok (.ladd, 1) := by decide +kernel
theorem dX12_branch_44 : decode cX12_branch 44 = .ok (.lastore, 1) := by decide +kernel
theorem dX12_branch_45 : decode cX12_branch 45 = .ok (.aload_n 0, 1) := by decide +kernel
theorem dX12_branch_46 : decode cX12_branch 46 = .ok (.lload_n 1, 1) := by decide +kernel
theorem dX12_branch_47 : decode cX12_branch 47 = .ok (.invokevirtual 194, 3) := by decide +kernel
theorem dX12_branch_50 : decode cX12_branch 50 = .ok (.return_, 1) := by decide +kernel
def F_X12_branch_c45 (τ : MS) (w1 : Int64) : Option (MS) := some ((F_X12_goes τ w1))
def F_X12_branch (σ : MS)  : Option (MS) := ((F_X12_signed σ (25 : Int32) (0 : Int32)).bind fun v1 => (if (F_X12_on σ (31 : Int32)) = true then (F_X12_branch_c45 (mu_x σ (vp_updL (m_x σ) (30 : Int32).toNatClampNeg ((m_state σ (2 : Int32).toNatClampNeg) + (4 : Int64)))) ((m_state σ (2 : Int32).toNatClampNeg) + ((4 : Int64) * v1))) else (F_X12_branch_c45 σ ((m_state σ (2 : Int32).toNatClampNeg) + ((4 : Int64) * v1)))))
set_option maxHeartbeats 4000000 in
set_option maxRecDepth 100000 in
theorem c_X12_branch (l : Launch) (z : Cx) (r : Nat → Nat) (σ : MS) (sz : Nat) (res : MS) (hf : F_X12_branch σ = some res) : Met l yX12_branch (wsC yX12_branch cX12_branch 3 none) { frames := 3, cells := 0, slots := 0, locals := 69 } (mPc z (mW z r σ) sz [.ref (r 0)]) (gM z (va_A (mW z r σ) sz) none (mW z r res)) 0 0 (va_A (mW z r σ) sz) := by
  refine mk_m_v (own := RX12) (wf := mW z r) (by decide) rfl sz _ (Nat.le_of_ble_eq_true rfl) (fun p e s m below meth c A H locs Q ls S hK hA hP hD hS hl hend => ?_)
  have hx := S.1
  have hb := S.2.1
  have hown := S.2.2.2.1
  have hts := S.2.2.2.2
  have hl : lv_has ls 3 [(0, .ref (r 0))] := hl
  have J_c45 : ∀ (τ : MS) (w1 : Int64) (H : Heap) (locs : List Loc) (ls : Array Slot), F_X12_branch_c45 τ w1 = some res → va_P z.1 vwCl (mW z r τ) H → va_D A (mW z r τ) → va_S A s.heap H locs → lv_has ls 3 [(0, .ref (r 0)), (1, .long w1)] → W p l e { frames := 3, cells := 0, slots := 0, locals := 69 } s m ([.ref (r 0)] : List Value).toArray below meth c H locs 0 0 Q (F0 m 45 ls []) := by
    intro τ w1 H locs ls hf hP hD hS hl
    unfold F_X12_branch_c45 at hf
    refine lv_aload_n hx hb dX12_branch_45 rfl (lv_at hl 0 rfl) ?_
    refine lv_lload_n hx hb dX12_branch_46 rfl (lv_at hl 1 rfl) ?_
    refine k_X12_goes (a0 := w1) S hK hA hP hD hS tl_X12_194 ⟨Nat.le_of_ble_eq_true rfl, Nat.le_of_ble_eq_true rfl⟩ hl.1 (Nat.le_of_ble_eq_true rfl) dX12_branch_47 (fun H locs hP hD hS => ?_)
    exact hend (F_X12_goes τ w1) H locs 50 ls (Option.some.inj hf) hP hD hS dX12_branch_50
  unfold F_X12_branch at hf
  refine lv_aload_n hx hb dX12_branch_0 rfl (lv_at hl 0 rfl) ?_
  refine fg_X12_state S hK hP tf_X12_22 dX12_branch_1 ?_
  refine lv_iconst (v := 2) hx hb dX12_branch_4 (by decide) ?_
  refine al_m_state S hK hP (show vp_in (2 : Int32) 11 by unfold vp_in; decide) dX12_branch_5 ?_
  refine lv_ldc2 (v := 4) hx hb hown (hts _ tk_X12_90) dX12_branch_6 ?_
  refine lv_aload_n hx hb dX12_branch_9 rfl (lv_at hl 0 rfl) ?_
  refine lv_bipush (v := 25) hx hb dX12_branch_10 (by decide) ?_
  refine lv_iconst (v := 0) hx hb dX12_branch_12 (by decide) ?_
  obtain ⟨v1, e_v1, hf⟩ := Option.bind_eq_some_iff.mp hf
  refine k_X12_signed (a0 := (25 : Int32)) (a1 := (0 : Int32)) (res := v1) (hres := e_v1) S hK hP tl_X12_191 ⟨Nat.le_of_ble_eq_true rfl, Nat.le_of_ble_eq_true rfl⟩ hl.1 (Nat.le_of_ble_eq_true rfl) dX12_branch_13 ?_
  refine lv_lmul hx hb dX12_branch_16 ?_
  refine lv_ladd hx hb dX12_branch_17 ?_
  refine lv_lstore_n (lv' := [(1, .long ((m_state σ (2 : Int32).toNatClampNeg) + ((4 : Int64) * v1))), (0, .ref (r 0))]) hx hb dX12_branch_18 rfl hl (by decide) rfl (fun ls hl => ?_)
  refine lv_aload_n hx hb dX12_branch_19 rfl (lv_at hl 1 rfl) ?_
  refine lv_bipush (v := 31) hx hb dX12_branch_20 (by decide) ?_
  refine k_X12_on (a0 := (31 : Int32)) S hK hP tl_X12_118 ⟨Nat.le_of_ble_eq_true rfl, Nat.le_of_ble_eq_true rfl⟩ hl.1 (Nat.le_of_ble_eq_true rfl) dX12_branch_22 ?_
  refine gz_eq (tgt := 45) hx hb dX12_branch_25 (by decide) (fun c_25 => ?_) (fun c_25 => ?_)
  · rw [if_neg c_25] at hf
    exact J_c45 σ ((m_state σ (2 : Int32).toNatClampNeg) + ((4 : Int64) * v1)) H locs ls hf hP hD hS (lv_sub hl [1, 0] rfl)
  · rw [if_pos c_25] at hf
    refine lv_aload_n hx hb dX12_branch_28 rfl (lv_at hl 1 rfl) ?_
    refine fg_X12_x S hK hP tf_X12_18 dX12_branch_29 ?_
    refine lv_bipush (v := 30) hx hb dX12_branch_32 (by decide) ?_
    refine lv_aload_n hx hb dX12_branch_34 rfl (lv_at hl 1 rfl) ?_
    refine fg_X12_state S hK hP tf_X12_22 dX12_branch_35 ?_
    refine lv_iconst (v := 2) hx hb dX12_branch_38 (by decide) ?_
    refine al_m_state S hK hP (show vp_in (2 : Int32) 11 by unfold vp_in; decide) dX12_branch_39 ?_
    refine lv_ldc2 (v := 4) hx hb hown (hts _ tk_X12_90) dX12_branch_40 ?_
    refine lv_ladd hx hb dX12_branch_43 ?_
    refine ar_m_x (x := ((m_state σ (2 : Int32).toNatClampNeg) + (4 : Int64))) S hK hP hD hS (show vp_in (30 : Int32) 32 by unfold vp_in; decide) dX12_branch_44 (fun H locs hP hD hS => ?_)
    exact J_c45 (mu_x σ (vp_updL (m_x σ) (30 : Int32).toNatClampNeg ((m_state σ (2 : Int32).toNatClampNeg) + (4 : Int64)))) ((m_state σ (2 : Int32).toNatClampNeg) + ((4 : Int64) * v1)) H locs ls hf hP hD hS (lv_sub hl [1, 0] rfl)
theorem k_X12_branch {p : Program} {l : Launch} {e : Env} {R : Room} {s : State} {m : MethodId} {args : Array Value} {below : List Frame} {meth : Method} {c : Code} {H : Heap} {locs : List Loc} {Q : State → Prop} {cc : ByteArray} {pc : Nat} {ls : Array Slot} {rest : List Value} {own : String} {index nL : Nat} {A : Nat → Prop} {z : Cx} {r : Nat → Nat} {σ : MS} {res : MS} (hres : F_X12_branch σ = some res) (S : CallFix p m c cc nL s args tbG own) (hK : va_K z.1 vwCl (cxT z) s) (hA : ∀ q, s.heap.size ≤ q → A q) (hP : va_P z.1 vwCl (mW z r σ) H) (hD : va_D A (mW z r σ)) (hS : va_S A s.heap H locs) (hl : Cond.methodLink own index yX12_branch ∈ tbG) (hR : 3 + 1 ≤ R.frames ∧ 8 + (3 + 11) + 69 ≤ R.locals) (hsz : ls.size = nL) (hcat : (rest.map fun v => v.category).sum ≤ 8) (hdg : decode cc pc = .ok (.invokevirtual index, 3)) (kk : ∀ (H : Heap) (locs : List Loc), va_P z.1 vwCl (mW z r res) H → va_D A (mW z r res) → va_S A s.heap H locs → W p l e R s m args below meth c H locs 0 0 Q (F0 m (pc + 3) ls (rest))) : W p l e R s m args below meth c H locs 0 0 Q (F0 m pc ls (.ref (r 0) :: rest)) :=
  km (As := []) (ov := none) (w' := mW z r res) (q0 := 0) (ci := 11) S hK hA hP hD hS (c_X12_branch l z r σ H.size _ hres) ⟨tb_cB 0 S.2.2.2.2 tc_X12_branch ti_X12 hl rfl rfl (by decide +kernel) hR, S.2.2.2.2 _ tm_X12_branch, S.2.2.2.2 _ te_X12_branch⟩ rfl rfl rfl rfl hsz rfl hcat hdg kk

theorem dX12_zero_0 : decode cX12_zero 0 = .ok (.aload_n 0, 1) := by decide +kernel
theorem dX12_zero_1 : decode cX12_zero 1 = .ok (.aload_n 0, 1) := by decide +kernel
theorem dX12_zero_2 : decode cX12_zero 2 = .ok (.iconst 4, 1) := by decide +kernel
theorem dX12_zero_3 : decode cX12_zero 3 = .ok (.iconst 0, 1) := by decide +kernel
theorem dX12_zero_4 : decode cX12_zero 4 = .ok (.invokevirtual 121, 3) := by decide +kernel
theorem dX12_zero_7 : decode cX12_zero 7 = .ok (.invokevirtual 161, 3) := by decide +kernel
theorem dX12_zero_10 : decode cX12_zero 10 = .ok (.aload_n 0, 1) := by decide +kernel
theorem dX12_zero_11 : decode cX12_zero 11 = .ok (.invokevirtual 129, 3) := by decide +kernel
theorem dX12_zero_14 : decode cX12_zero 14 = .ok (.invokestatic 138, 3) := by decide +kernel
theorem dX12_zero_17 : decode cX12_zero 17 = .ok (.lconst 0, 1) := by decide +kernel
theorem dX12_zero_18 : decode cX12_zero 18 = .ok (.lcmp, 1) := by decide +kernel
theorem dX12_zero_19 : decode cX12_zero 19 = .ok (.ifCond .ne 7, 3) := by decide +kernel
theorem dX12_zero_22 : decode cX12_zero 22 = .ok (.iconst 1, 1) := by decide +kernel
theorem dX12_zero_23 : decode cX12_zero 23 = .ok (.goto 4, 3) := by decide +kernel
theorem dX12_zero_26 : decode cX12_zero 26 = .ok (.iconst 0, 1) := by decide +kernel
theorem dX12_zero_27 : decode cX12_zero 27 = .ok (.istore_n 1, 1) := by decide +kernel
theorem dX12_zero_28 : decode cX12_zero 28 = .ok (.iload_n 1, 1) := by decide +kernel
theorem dX12_zero_29 : decode cX12_zero 29 = .ok (.aload_n 0, 1) := by decide +kernel
theorem dX12_zero_30 : decode cX12_zero 30 = .ok (.bipush 24, 2) := by decide +kernel
theorem dX12_zero_32 : decode cX12_zero 32 = .ok (.invokevirtual 118, 3) := by decide +kernel
theorem dX12_zero_35 : decode cX12_zero 35 = .ok (.if_icmp .eq 25, 3) := by decide +kernel
theorem dX12_zero_38 : decode cX12_zero 38 = .ok (.aload_n 0, 1) := by decide +kernel
theorem dX12_zero_39 : decode cX12_zero 39 = .ok (.aload_n 0, 1) := by decide +kernel
theorem dX12_zero_40 : decode cX12_zero 40 = .ok (.getfield 22, 3) := by decide +kernel
theorem dX12_zero_43 : decode cX12_zero 43 = .ok (.iconst 2, 1) := by decide +kernel
theorem dX12_zero_44 : decode cX12_zero 44 = .ok (.laload, 1) := by decide +kernel
theorem dX12_zero_45 : decode cX12_zero 45 = .ok (.ldc2_w 90, 3) := by decide +kernel
theorem dX12_zero_48 : decode cX12_zero 48 = .ok (.aload_n 0, 1) := by decide +kernel
theorem dX12_zero_49 : decode cX12_zero 49 = .ok (.bipush 23, 2) := by decide +kernel
theorem dX12_zero_51 : decode cX12_zero 51 = .ok (.iconst 5, 1) := by decide +kernel
theorem dX12_zero_52 : decode cX12_zero 52 = .ok (.invokevirtual 191, 3) := by decide +kernel
theorem dX12_zero_55 : decode cX12_zero 55 = .ok (.lmul, 1) := by decide +kernel
theorem dX12_zero_56 : decode cX12_zero 56 = .ok (.ladd, 1) := by decide +kernel
theorem dX12_zero_57 : decode cX12_zero 57 = .ok (.invokevirtual 194, 3) := by decide +kernel
theorem dX12_zero_60 : decode cX12_zero 60 = .ok (.return_, 1) := by decide +kernel
def F_X12_zero_c27 (τ : MS) (s0 : Bool) : Option (MS) := (if s0 = (F_X12_on τ (24 : Int32)) then some (τ) else ((F_X12_signed τ (23 : Int32) (5 : Int32)).bind fun v3 => some ((F_X12_goes τ ((m_state τ (2 : Int32).toNatClampNeg) + ((4 : Int64) * v3))))))
def F_X12_zero (σ : MS)  : Option (MS) := ((F_X12_f σ (4 : Int32) (0 : Int32)).bind fun v1 => ((F_X12_reg σ v1).bind fun v2 => (if (F_X12_cut v2 (F_X12_width σ)) = (0 : Int64) then (F_X12_zero_c27 σ true) else (F_X12_zero_c27 σ false))))
set_option maxHeartbeats 4000000 in
set_option maxRecDepth 100000 in
theorem c_X12_zero (l : Launch) (z : Cx) (r : Nat → Nat) (σ : MS) (sz : Nat) (res : MS) (hf : F_X12_zero σ = some res) : Met l yX12_zero (wsC yX12_zero cX12_zero 2 none) { frames := 3, cells := 0, slots := 0, locals := 69 } (mPc z (mW z r σ) sz [.ref (r 0)]) (gM z (va_A (mW z r σ) sz) none (mW z r res)) 0 0 (va_A (mW z r σ) sz) := by
  refine mk_m_v (own := RX12) (wf := mW z r) (by decide) rfl sz _ (Nat.le_of_ble_eq_true rfl) (fun p e s m below meth c A H locs Q ls S hK hA hP hD hS hl hend => ?_)
  have hx := S.1
  have hb := S.2.1
  have hown := S.2.2.2.1
  have hts := S.2.2.2.2
  have hl : lv_has ls 2 [(0, .ref (r 0))] := hl
  have J_c27 : ∀ (τ : MS) (s0 : Bool) (H : Heap) (locs : List Loc) (ls : Array Slot), F_X12_zero_c27 τ s0 = some res → va_P z.1 vwCl (mW z r τ) H → va_D A (mW z r τ) → va_S A s.heap H locs → lv_has ls 2 [(0, .ref (r 0))] → W p l e { frames := 3, cells := 0, slots := 0, locals := 69 } s m ([.ref (r 0)] : List Value).toArray below meth c H locs 0 0 Q (F0 m 27 ls [.int (zB s0)]) := by
    intro τ s0 H locs ls hf hP hD hS hl
    unfold F_X12_zero_c27 at hf
    refine lv_istore_n (lv' := [(1, .int (zB s0)), (0, .ref (r 0))]) hx hb dX12_zero_27 rfl hl (by decide) rfl (fun ls hl => ?_)
    refine lv_iload_n hx hb dX12_zero_28 rfl (lv_at hl 0 rfl) ?_
    refine lv_aload_n hx hb dX12_zero_29 rfl (lv_at hl 1 rfl) ?_
    refine lv_bipush (v := 24) hx hb dX12_zero_30 (by decide) ?_
    refine k_X12_on (a0 := (24 : Int32)) S hK hP tl_X12_118 ⟨Nat.le_of_ble_eq_true rfl, Nat.le_of_ble_eq_true rfl⟩ hl.1 (Nat.le_of_ble_eq_true rfl) dX12_zero_32 ?_
    refine gz_ceq (tgt := 60) hx hb dX12_zero_35 (by decide) (fun c_35 => ?_) (fun c_35 => ?_)
    · rw [if_pos c_35] at hf
      exact hend τ H locs 60 ls (Option.some.inj hf) hP hD hS dX12_zero_60
    · rw [if_neg c_35] at hf
      refine lv_aload_n hx hb dX12_zero_38 rfl (lv_at hl 1 rfl) ?_
      refine lv_aload_n hx hb dX12_zero_39 rfl (lv_at hl 1 rfl) ?_
      refine fg_X12_state S hK hP tf_X12_22 dX12_zero_40 ?_
      refine lv_iconst (v := 2) hx hb dX12_zero_43 (by decide) ?_
      refine al_m_state S hK hP (show vp_in (2 : Int32) 11 by unfold vp_in; decide) dX12_zero_44 ?_
      refine lv_ldc2 (v := 4) hx hb hown (hts _ tk_X12_90) dX12_zero_45 ?_
      refine lv_aload_n hx hb dX12_zero_48 rfl (lv_at hl 1 rfl) ?_
      refine lv_bipush (v := 23) hx hb dX12_zero_49 (by decide) ?_
      refine lv_iconst (v := 5) hx hb dX12_zero_51 (by decide) ?_
      obtain ⟨v3, e_v3, hf⟩ := Option.bind_eq_some_iff.mp hf
      refine k_X12_signed (a0 := (23 : Int32)) (a1 := (5 : Int32)) (res := v3) (hres := e_v3) S hK hP tl_X12_191 ⟨Nat.le_of_ble_eq_true rfl, Nat.le_of_ble_eq_true rfl⟩ hl.1 (Nat.le_of_ble_eq_true rfl) dX12_zero_52 ?_
      refine lv_lmul hx hb dX12_zero_55 ?_
      refine lv_ladd hx hb dX12_zero_56 ?_
      refine k_X12_goes (a0 := ((m_state τ (2 : Int32).toNatClampNeg) + ((4 : Int64) * v3))) S hK hA hP hD hS tl_X12_194 ⟨Nat.le_of_ble_eq_true rfl, Nat.le_of_ble_eq_true rfl⟩ hl.1 (Nat.le_of_ble_eq_true rfl) dX12_zero_57 (fun H locs hP hD hS => ?_)
      exact hend (F_X12_goes τ ((m_state τ (2 : Int32).toNatClampNeg) + ((4 : Int64) * v3))) H locs 60 ls (Option.some.inj hf) hP hD hS dX12_zero_60
  unfold F_X12_zero at hf
  refine lv_aload_n hx hb dX12_zero_0 rfl (lv_at hl 0 rfl) ?_
  refine lv_aload_n hx hb dX12_zero_1 rfl (lv_at hl 0 rfl) ?_
  refine lv_iconst (v := 4) hx hb dX12_zero_2 (by decide) ?_
  refine lv_iconst (v := 0) hx hb dX12_zero_3 (by decide) ?_
  obtain ⟨v1, e_v1, hf⟩ := Option.bind_eq_some_iff.mp hf
  refine k_X12_f (a0 := (4 : Int32)) (a1 := (0 : Int32)) (res := v1) (hres := e_v1) S hK hP tl_X12_121 ⟨Nat.le_of_ble_eq_true rfl, Nat.le_of_ble_eq_true rfl⟩ hl.1 (Nat.le_of_ble_eq_true rfl) dX12_zero_4 ?_
  obtain ⟨v2, e_v2, hf⟩ := Option.bind_eq_some_iff.mp hf
  refine k_X12_reg (a0 := v1) (res := v2) (hres := e_v2) S hK hP tl_X12_161 ⟨Nat.le_of_ble_eq_true rfl, Nat.le_of_ble_eq_true rfl⟩ hl.1 (Nat.le_of_ble_eq_true rfl) dX12_zero_7 ?_
  refine lv_aload_n hx hb dX12_zero_10 rfl (lv_at hl 0 rfl) ?_
  refine k_X12_width S hK hP tl_X12_129 ⟨Nat.le_of_ble_eq_true rfl, Nat.le_of_ble_eq_true rfl⟩ hl.1 (Nat.le_of_ble_eq_true rfl) dX12_zero_11 ?_
  refine k_X12_cut (a0 := v2) (a1 := (F_X12_width σ)) S tl_X12_138 ⟨Nat.le_of_ble_eq_true rfl, Nat.le_of_ble_eq_true rfl⟩ hl.1 (Nat.le_of_ble_eq_true rfl) dX12_zero_14 ?_
  refine lv_lconst (v := 0) hx hb dX12_zero_17 (by decide) ?_
  refine gl_ne (tgt := 26) hx hb dX12_zero_18 dX12_zero_19 (by decide) (fun c_18 => ?_) (fun c_18 => ?_)
  · rw [if_neg c_18] at hf
    refine lv_iconst (v := 0) hx hb dX12_zero_26 (by decide) ?_
    exact J_c27 σ false H locs ls hf hP hD hS (lv_sub hl [0] rfl)
  · rw [if_pos c_18] at hf
    refine lv_iconst (v := 1) hx hb dX12_zero_22 (by decide) ?_
    refine lv_goto (tgt := 27) hx hb dX12_zero_23 (by decide) ?_
    exact J_c27 σ true H locs ls hf hP hD hS (lv_sub hl [0] rfl)
theorem k_X12_zero {p : Program} {l : Launch} {e : Env} {R : Room} {s : State} {m : MethodId} {args : Array Value} {below : List Frame} {meth : Method} {c : Code} {H : Heap} {locs : List Loc} {Q : State → Prop} {cc : ByteArray} {pc : Nat} {ls : Array Slot} {rest : List Value} {own : String} {index nL : Nat} {A : Nat → Prop} {z : Cx} {r : Nat → Nat} {σ : MS} {res : MS} (hres : F_X12_zero σ = some res) (S : CallFix p m c cc nL s args tbG own) (hK : va_K z.1 vwCl (cxT z) s) (hA : ∀ q, s.heap.size ≤ q → A q) (hP : va_P z.1 vwCl (mW z r σ) H) (hD : va_D A (mW z r σ)) (hS : va_S A s.heap H locs) (hl : Cond.methodLink own index yX12_zero ∈ tbG) (hR : 3 + 1 ≤ R.frames ∧ 8 + (2 + 11) + 69 ≤ R.locals) (hsz : ls.size = nL) (hcat : (rest.map fun v => v.category).sum ≤ 8) (hdg : decode cc pc = .ok (.invokevirtual index, 3)) (kk : ∀ (H : Heap) (locs : List Loc), va_P z.1 vwCl (mW z r res) H → va_D A (mW z r res) → va_S A s.heap H locs → W p l e R s m args below meth c H locs 0 0 Q (F0 m (pc + 3) ls (rest))) : W p l e R s m args below meth c H locs 0 0 Q (F0 m pc ls (.ref (r 0) :: rest)) :=
  km (As := []) (ov := none) (w' := mW z r res) (q0 := 0) (ci := 11) S hK hA hP hD hS (c_X12_zero l z r σ H.size _ hres) ⟨tb_cB 0 S.2.2.2.2 tc_X12_zero ti_X12 hl rfl rfl (by decide +kernel) hR, S.2.2.2.2 _ tm_X12_zero, S.2.2.2.2 _ te_X12_zero⟩ rfl rfl rfl rfl hsz rfl hcat hdg kk

theorem dX12_byBit_0 : decode cX12_byBit 0 = .ok (.aload_n 0, 1) := by decide +kernel
theorem dX12_byBit_1 : decode cX12_byBit 1 = .ok (.bipush 23, 2) := by decide +kernel
theorem dX12_byBit_3 : decode cX12_byBit 3 = .ok (.bipush 19, 2) := by decide +kernel
theorem dX12_byBit_5 : decode cX12_byBit 5 = .ok (.invokevirtual 121, 3) := by decide +kernel
theorem dX12_byBit_8 : decode cX12_byBit 8 = .ok (.istore_n 1, 1) := by decide +kernel
theorem dX12_byBit_9 : decode cX12_byBit 9 = .ok (.aload_n 0, 1) := by decide +kernel
theorem dX12_byBit_10 : decode cX12_byBit 10 = .ok (.bipush 31, 2) := by decide +kernel
theorem dX12_byBit_12 : decode cX12_byBit 12 = .ok (.invokevirtual 118, 3) := by decide +kernel
theorem dX12_byBit_15 : decode cX12_byBit 15 = .ok (.ifCond .eq 6, 3) := by decide +kernel
theorem dX12_byBit_18 : decode cX12_byBit 18 = .ok (.iinc 1 32, 3) := by decide +kernel
theorem dX12_byBit_21 : decode cX12_byBit 21 = .ok (.aload_n 0, 1) := by decide +kernel
theorem dX12_byBit_22 : decode cX12_byBit 22 = .ok (.aload_n 0, 1) := by decide +kernel
theorem dX12_byBit_23 : decode cX12_byBit 23 = .ok (.iconst 4, 1) := by decide +kernel
theorem dX12_byBit_24 : decode cX12_byBit 24 = .ok (.iconst 0, 1) := by decide +kernel
theorem dX12_byBit_25 : decode cX12_byBit 25 = .ok (.invokevirtual 121, 3) := by decide +kernel
theorem dX12_byBit_28 : decode cX12_byBit 28 = .ok (.invokevirtual 161, 3) := by decide +kernel
theorem dX12_byBit_31 : decode cX12_byBit 31 = .ok (.iload_n 1, 1) := by decide +kernel
theorem dX12_byBit_32 : decode cX12_byBit 32 = .ok (.invokestatic 68, 3) := by decide +kernel
theorem dX12_byBit_35 : decode cX12_byBit 35 = .ok (.aload_n 0, 1) := by decide +kernel
theorem dX12_byBit_36 : decode cX12_byBit 36 = .ok (.bipush 24, 2) := by decide +kernel
theorem dX12_byBit_38 : decode cX12_byBit 38 = .ok (.invokevirtual 118, 3) := by decide +kernel
theorem dX12_byBit_41 : decode cX12_byBit 41 = .ok (.if_icmp .ne 25, 3) := by decide +kernel
theorem dX12_byBit_44 : decode cX12_byBit 44 = .ok (.aload_n 0, 1) := by decide +kernel
theorem dX12_byBit_45 : decode cX12_byBit 45 = .ok (.aload_n 0, 1) := by decide +kernel
theorem dX12_byBit_46 : decode cX12_byBit 46 = .ok (.getfield 22, 3) := by decide +kernel
theorem dX12_byBit_49 : decode cX12_byBit 49 = .ok (.iconst 2, 1) := by decide +kernel
theorem dX12_byBit_50 : decode cX12_byBit 50 = .ok (.laload, 1) := by decide +kernel
theorem dX12_byBit_51 : decode cX12_byBit 51 = .ok (.ldc2_w 90, 3) := by decide +kernel
theorem dX12_byBit_54 : decode cX12_byBit 54 = .ok (.aload_n 0, 1) := by decide +kernel
theorem dX12_byBit_55 : decode cX12_byBit 55 = .ok (.bipush 18, 2) := by decide +kernel
theorem dX12_byBit_57 : decode cX12_byBit 57 = .ok (.iconst 5, 1) := by decide +kernel
theorem dX12_byBit_58 : decode cX12_byBit 58 = .ok (.invokevirtual 191, 3) := by decide +kernel
theorem dX12_byBit_61 : decode cX12_byBit 61 = .ok (.lmul, 1) := by decide +kernel
theorem dX12_byBit_62 : decode cX12_byBit 62 = .ok (.ladd, 1) := by decide +kernel
theorem dX12_byBit_63 : decode cX12_byBit 63 = .ok (.invokevirtual 194, 3) := by decide +kernel
theorem dX12_byBit_66 : decode cX12_byBit 66 = .ok (.return_, 1) := by decide +kernel
def F_X12_byBit_c21 (τ : MS) (w1 : Int32) : Option (MS) := ((F_X12_f τ (4 : Int32) (0 : Int32)).bind fun v2 => ((F_X12_reg τ v2).bind fun v3 => (if (F_X12_bit v3 w1) = (F_X12_on τ (24 : Int32)) then ((F_X12_signed τ (18 : Int32) (5 : Int32)).bind fun v4 => some ((F_X12_goes τ ((m_state τ (2 : Int32).toNatClampNeg) + ((4 : Int64) * v4))))) else some (τ))))
def F_X12_byBit (σ : MS)  : Option (MS) := ((F_X12_f σ (23 : Int32) (19 : Int32)).bind fun v1 => (if (F_X12_on σ (31 : Int32)) = true then (F_X12_byBit_c21 σ (v1 + (32))) else (F_X12_byBit_c21 σ v1)))
set_option maxHeartbeats 4000000 in
set_option maxRecDepth 100000 in
theorem c_X12_byBit (l : Launch) (z : Cx) (r : Nat → Nat) (σ : MS) (sz : Nat) (res : MS) (hf : F_X12_byBit σ = some res) : Met l yX12_byBit (wsC yX12_byBit cX12_byBit 2 none) { frames := 3, cells := 0, slots := 0, locals := 69 } (mPc z (mW z r σ) sz [.ref (r 0)]) (gM z (va_A (mW z r σ) sz) none (mW z r res)) 0 0 (va_A (mW z r σ) sz) := by
  refine mk_m_v (own := RX12) (wf := mW z r) (by decide) rfl sz _ (Nat.le_of_ble_eq_true rfl) (fun p e s m below meth c A H locs Q ls S hK hA hP hD hS hl hend => ?_)
  have hx := S.1
  have hb := S.2.1
  have hown := S.2.2.2.1
  have hts := S.2.2.2.2
  have hl : lv_has ls 2 [(0, .ref (r 0))] := hl
  have J_c21 : ∀ (τ : MS) (w1 : Int32) (H : Heap) (locs : List Loc) (ls : Array Slot), F_X12_byBit_c21 τ w1 = some res → va_P z.1 vwCl (mW z r τ) H → va_D A (mW z r τ) → va_S A s.heap H locs → lv_has ls 2 [(0, .ref (r 0)), (1, .int w1)] → W p l e { frames := 3, cells := 0, slots := 0, locals := 69 } s m ([.ref (r 0)] : List Value).toArray below meth c H locs 0 0 Q (F0 m 21 ls []) := by
    intro τ w1 H locs ls hf hP hD hS hl
    unfold F_X12_byBit_c21 at hf
    refine lv_aload_n hx hb dX12_byBit_21 rfl (lv_at hl 0 rfl) ?_
    refine lv_aload_n hx hb dX12_byBit_22 rfl (lv_at hl 0 rfl) ?_
    refine lv_iconst (v := 4) hx hb dX12_byBit_23 (by decide) ?_
    refine lv_iconst (v := 0) hx hb dX12_byBit_24 (by decide) ?_
    obtain ⟨v2, e_v2, hf⟩ := Option.bind_eq_some_iff.mp hf
    refine k_X12_f (a0 := (4 : Int32)) (a1 := (0 : Int32)) (res := v2) (hres := e_v2) S hK hP tl_X12_121 ⟨Nat.le_of_ble_eq_true rfl, Nat.le_of_ble_eq_true rfl⟩ hl.1 (Nat.le_of_ble_eq_true rfl) dX12_byBit_25 ?_
    obtain ⟨v3, e_v3, hf⟩ := Option.bind_eq_some_iff.mp hf
    refine k_X12_reg (a0 := v2) (res := v3) (hres := e_v3) S hK hP tl_X12_161 ⟨Nat.le_of_ble_eq_true rfl, Nat.le_of_ble_eq_true rfl⟩ hl.1 (Nat.le_of_ble_eq_true rfl) dX12_byBit_28 ?_
    refine lv_iload_n hx hb dX12_byBit_31 rfl (lv_at hl 1 rfl) ?_
    refine k_X12_bit (a0 := v3) (a1 := w1) S tl_X12_68 ⟨Nat.le_of_ble_eq_true rfl, Nat.le_of_ble_eq_true rfl⟩ hl.1 (Nat.le_of_ble_eq_true rfl) dX12_byBit_32 ?_
    refine lv_aload_n hx hb dX12_byBit_35 rfl (lv_at hl 0 rfl) ?_
    refine lv_bipush (v := 24) hx hb dX12_byBit_36 (by decide) ?_
    refine k_X12_on (a0 := (24 : Int32)) S hK hP tl_X12_118 ⟨Nat.le_of_ble_eq_true rfl, Nat.le_of_ble_eq_true rfl⟩ hl.1 (Nat.le_of_ble_eq_true rfl) dX12_byBit_38 ?_
    refine gz_cne (tgt := 66) hx hb dX12_byBit_41 (by decide) (fun c_41 => ?_) (fun c_41 => ?_)
    · rw [if_neg c_41] at hf
      exact hend τ H locs 66 ls (Option.some.inj hf) hP hD hS dX12_byBit_66
    · rw [if_pos c_41] at hf
      refine lv_aload_n hx hb dX12_byBit_44 rfl (lv_at hl 0 rfl) ?_
      refine lv_aload_n hx hb dX12_byBit_45 rfl (lv_at hl 0 rfl) ?_
      refine fg_X12_state S hK hP tf_X12_22 dX12_byBit_46 ?_
      refine lv_iconst (v := 2) hx hb dX12_byBit_49 (by decide) ?_
      refine al_m_state S hK hP (show vp_in (2 : Int32) 11 by unfold vp_in; decide) dX12_byBit_50 ?_
      refine lv_ldc2 (v := 4) hx hb hown (hts _ tk_X12_90) dX12_byBit_51 ?_
      refine lv_aload_n hx hb dX12_byBit_54 rfl (lv_at hl 0 rfl) ?_
      refine lv_bipush (v := 18) hx hb dX12_byBit_55 (by decide) ?_
      refine lv_iconst (v := 5) hx hb dX12_byBit_57 (by decide) ?_
      obtain ⟨v4, e_v4, hf⟩ := Option.bind_eq_some_iff.mp hf
      refine k_X12_signed (a0 := (18 : Int32)) (a1 := (5 : Int32)) (res := v4) (hres := e_v4) S hK hP tl_X12_191 ⟨Nat.le_of_ble_eq_true rfl, Nat.le_of_ble_eq_true rfl⟩ hl.1 (Nat.le_of_ble_eq_true rfl) dX12_byBit_58 ?_
      refine lv_lmul hx hb dX12_byBit_61 ?_
      refine lv_ladd hx hb dX12_byBit_62 ?_
      refine k_X12_goes (a0 := ((m_state τ (2 : Int32).toNatClampNeg) + ((4 : Int64) * v4))) S hK hA hP hD hS tl_X12_194 ⟨Nat.le_of_ble_eq_true rfl, Nat.le_of_ble_eq_true rfl⟩ hl.1 (Nat.le_of_ble_eq_true rfl) dX12_byBit_63 (fun H locs hP hD hS => ?_)
      exact hend (F_X12_goes τ ((m_state τ (2 : Int32).toNatClampNeg) + ((4 : Int64) * v4))) H locs 66 ls (Option.some.inj hf) hP hD hS dX12_byBit_66
  unfold F_X12_byBit at hf
  refine lv_aload_n hx hb dX12_byBit_0 rfl (lv_at hl 0 rfl) ?_
  refine lv_bipush (v := 23) hx hb dX12_byBit_1 (by decide) ?_
  refine lv_bipush (v := 19) hx hb dX12_byBit_3 (by decide) ?_
  obtain ⟨v1, e_v1, hf⟩ := Option.bind_eq_some_iff.mp hf
  refine k_X12_f (a0 := (23 : Int32)) (a1 := (19 : Int32)) (res := v1) (hres := e_v1) S hK hP tl_X12_121 ⟨Nat.le_of_ble_eq_true rfl, Nat.le_of_ble_eq_true rfl⟩ hl.1 (Nat.le_of_ble_eq_true rfl) dX12_byBit_5 ?_
  refine lv_istore_n (lv' := [(1, .int v1), (0, .ref (r 0))]) hx hb dX12_byBit_8 rfl hl (by decide) rfl (fun ls hl => ?_)
  refine lv_aload_n hx hb dX12_byBit_9 rfl (lv_at hl 1 rfl) ?_
  refine lv_bipush (v := 31) hx hb dX12_byBit_10 (by decide) ?_
  refine k_X12_on (a0 := (31 : Int32)) S hK hP tl_X12_118 ⟨Nat.le_of_ble_eq_true rfl, Nat.le_of_ble_eq_true rfl⟩ hl.1 (Nat.le_of_ble_eq_true rfl) dX12_byBit_12 ?_
  refine gz_eq (tgt := 21) hx hb dX12_byBit_15 (by decide) (fun c_15 => ?_) (fun c_15 => ?_)
  · rw [if_neg c_15] at hf
    exact J_c21 σ v1 H locs ls hf hP hD hS (lv_sub hl [1, 0] rfl)
  · rw [if_pos c_15] at hf
    refine lv_iinc (v := v1 + (32)) (lv' := [(1, .int (v1 + (32))), (0, .ref (r 0))]) hx hb dX12_byBit_18 hl (k := 0) rfl rfl (by decide) rfl (fun ls hl => ?_)
    exact J_c21 σ (v1 + (32)) H locs ls hf hP hD hS (lv_sub hl [1, 0] rfl)
theorem k_X12_byBit {p : Program} {l : Launch} {e : Env} {R : Room} {s : State} {m : MethodId} {args : Array Value} {below : List Frame} {meth : Method} {c : Code} {H : Heap} {locs : List Loc} {Q : State → Prop} {cc : ByteArray} {pc : Nat} {ls : Array Slot} {rest : List Value} {own : String} {index nL : Nat} {A : Nat → Prop} {z : Cx} {r : Nat → Nat} {σ : MS} {res : MS} (hres : F_X12_byBit σ = some res) (S : CallFix p m c cc nL s args tbG own) (hK : va_K z.1 vwCl (cxT z) s) (hA : ∀ q, s.heap.size ≤ q → A q) (hP : va_P z.1 vwCl (mW z r σ) H) (hD : va_D A (mW z r σ)) (hS : va_S A s.heap H locs) (hl : Cond.methodLink own index yX12_byBit ∈ tbG) (hR : 3 + 1 ≤ R.frames ∧ 8 + (2 + 11) + 69 ≤ R.locals) (hsz : ls.size = nL) (hcat : (rest.map fun v => v.category).sum ≤ 8) (hdg : decode cc pc = .ok (.invokevirtual index, 3)) (kk : ∀ (H : Heap) (locs : List Loc), va_P z.1 vwCl (mW z r res) H → va_D A (mW z r res) → va_S A s.heap H locs → W p l e R s m args below meth c H locs 0 0 Q (F0 m (pc + 3) ls (rest))) : W p l e R s m args below meth c H locs 0 0 Q (F0 m pc ls (.ref (r 0) :: rest)) :=
  km (As := []) (ov := none) (w' := mW z r res) (q0 := 0) (ci := 11) S hK hA hP hD hS (c_X12_byBit l z r σ H.size _ hres) ⟨tb_cB 0 S.2.2.2.2 tc_X12_byBit ti_X12 hl rfl rfl (by decide +kernel) hR, S.2.2.2.2 _ tm_X12_byBit, S.2.2.2.2 _ te_X12_byBit⟩ rfl rfl rfl rfl hsz rfl hcat hdg kk

theorem dX12_toRegister_0 : decode cX12_toRegister 0 = .ok (.aload_n 0, 1) := by decide +kernel
theorem dX12_toRegister_1 : decode cX12_toRegister 1 = .ok (.bipush 22, 2) := by decide +kernel
theorem dX12_toRegister_3 : decode cX12_toRegister 3 = .ok (.bipush 21, 2) := by decide +kernel
theorem dX12_toRegister_5 : decode cX12_toRegister 5 = .ok (.invokevirtual 121, 3) := by decide +kernel
theorem dX12_toRegister_8 : decode cX12_toRegister 8 = .ok (.iconst 3, 1) := by decide +kernel
theorem dX12_toRegister_9 : decode cX12_toRegister 9 = .ok (.if_icmp .ne 8, 3) := by decide +kernel
theorem dX12_toRegister_12 : decode cX12_toRegister 12 = .ok (.aload_n 0, 1) := by decide +kernel
theorem dX12_toRegister_13 : decode cX12_toRegister 13 = .ok (.invokevirtual 158, 3) := by decide +kernel
theorem dX12_toRegister_16 : decode cX12_toRegister 16 = .ok (.return_, 1) := by decide +kernel
theorem dX12_toRegister_17 : decode cX12_toRegister 17 = .ok (.aload_n 0, 1) := by decide +kernel
theorem dX12_toRegister_18 : decode cX12_toRegister 18 = .ok (.aload_n 0, 1) := by decide +kernel
theorem dX12_toRegister_19 : decode cX12_toRegister 19 = .ok (.bipush 9, 2) := by decide +kernel
theorem dX12_toRegister_21 : decode cX12_toRegister 21 = .ok (.iconst 5, 1) := by decide +kernel
theorem dX12_toRegister_22 : decode cX12_toRegister 22 = .ok (.invokevirtual 121, 3) := by decide +kernel
theorem dX12_toRegister_25 : decode cX12_toRegister 25 = .ok (.invokevirtual 161, 3) := by decide +kernel
theorem dX12_toRegister_28 : decode cX12_toRegister 28 = .ok (.lstore_n 1, 1) := by decide +kernel
theorem dX12_toRegister_29 : decode cX12_toRegister 29 = .ok (.aload_n 0, 1) := by decide +kernel
theorem dX12_toRegister_30 : decode cX12_toRegister 30 = .ok (.bipush 22, 2) := by decide +kernel
theorem dX12_toRegister_32 : decode cX12_toRegister 32 = .ok (.bipush 21, 2) := by decide +kernel
theorem dX12_toRegister_34 : decode cX12_toRegister 34 = .ok (.invokevirtual 121, 3) := by decide +kernel
theorem dX12_toRegister_37 : decode cX12_toRegister 37 = .ok (.iconst 1, 1) := by decide +kernel
theorem dX12_toRegister_38 : decode cX12_toRegister 38 = .ok (.if_icmp .ne 20, 3) := by decide +kernel
theorem dX12_toRegister_41 : decode cX12_toRegister 41 = .ok (.aload_n 0, 1) := by decide +kernel
theorem dX12_toRegister_42 : decode cX12_toRegister 42 = .ok (.getfield 18, 3) := by decide +kernel
theorem dX12_toRegister_45 : decode cX12_toRegister 45 = .ok (.bipush 30, 2) := by decide +kernel
theorem dX12_toRegister_47 : decode cX12_toRegister 47 = .ok (.aload_n 0, 1) := by decide +kernel
theorem dX12_toRegister_48 : decode cX12_toRegister 48 = .ok (.getfield 22, 3) := by decide +kernel
theorem dX12_toRegister_51 : decode cX12_toRegister 51 = .ok (.iconst 2, 1) := by decide +kernel
theorem dX12_toRegister_52 : decode cX12_toRegister 52 = .ok (.laload, 1) := by decide +kernel
theorem dX12_toRegister_53 : decode cX12_toRegister 53 = .ok (.ldc2_w 90, 3) := by decide +kernel
theorem dX12_toRegister_56 : decode cX12_toRegister 56 = .ok (.ladd, 1) := by decide +kernel
theorem dX12_toRegister_57 : decode cX12_toRegister 57 = .ok (.lastore, 1) := by decide +kernel
theorem dX12_toRegister_58 : decode cX12_toRegister 58 = .ok (.aload_n 0, 1) := by decide +kernel
theorem dX12_toRegister_59 : decode cX12_toRegister 59 = .ok (.lload_n 1, 1) := by decide +kernel
theorem dX12_toRegister_60 : decode cX12_toRegister 60 = .ok (.invokevirtual 194, 3) := by decide +kernel
theorem dX12_toRegister_63 : decode cX12_toRegister 63 = .ok (.return_, 1) := by decide +kernel
def F_X12_toRegister_c58 (τ : MS) (w1 : Int64) : Option (MS) := some ((F_X12_goes τ w1))
def F_X12_toRegister (σ : MS)  : Option (MS) := ((F_X12_f σ (22 : Int32) (21 : Int32)).bind fun v1 => (if v1 = (3 : Int32) then some ((F_X12_none σ)) else ((F_X12_f σ (9 : Int32) (5 : Int32)).bind fun v2 => ((F_X12_reg σ v2).bind fun v3 => ((F_X12_f σ (22 : Int32) (21 : Int32)).bind fun v4 => (if v4 = (1 : Int32) then (F_X12_toRegister_c58 (mu_x σ (vp_updL (m_x σ) (30 : Int32).toNatClampNeg ((m_state σ (2 : Int32).toNatClampNeg) + (4 : Int64)))) v3) else (F_X12_toRegister_c58 σ v3)))))))
set_option maxHeartbeats 4000000 in
set_option maxRecDepth 100000 in
theorem c_X12_toRegister (l : Launch) (z : Cx) (r : Nat → Nat) (σ : MS) (sz : Nat) (res : MS) (hf : F_X12_toRegister σ = some res) : Met l yX12_toRegister (wsC yX12_toRegister cX12_toRegister 3 none) { frames := 3, cells := 0, slots := 0, locals := 72 } (mPc z (mW z r σ) sz [.ref (r 0)]) (gM z (va_A (mW z r σ) sz) none (mW z r res)) 0 0 (va_A (mW z r σ) sz) := by
  refine mk_m_v (own := RX12) (wf := mW z r) (by decide) rfl sz _ (Nat.le_of_ble_eq_true rfl) (fun p e s m below meth c A H locs Q ls S hK hA hP hD hS hl hend => ?_)
  have hx := S.1
  have hb := S.2.1
  have hown := S.2.2.2.1
  have hts := S.2.2.2.2
  have hl : lv_has ls 3 [(0, .ref (r 0))] := hl
  have J_c58 : ∀ (τ : MS) (w1 : Int64) (H : Heap) (locs : List Loc) (ls : Array Slot), F_X12_toRegister_c58 τ w1 = some res → va_P z.1 vwCl (mW z r τ) H → va_D A (mW z r τ) → va_S A s.heap H locs → lv_has ls 3 [(0, .ref (r 0)), (1, .long w1)] → W p l e { frames := 3, cells := 0, slots := 0, locals := 72 } s m ([.ref (r 0)] : List Value).toArray below meth c H locs 0 0 Q (F0 m 58 ls []) := by
    intro τ w1 H locs ls hf hP hD hS hl
    unfold F_X12_toRegister_c58 at hf
    refine lv_aload_n hx hb dX12_toRegister_58 rfl (lv_at hl 0 rfl) ?_
    refine lv_lload_n hx hb dX12_toRegister_59 rfl (lv_at hl 1 rfl) ?_
    refine k_X12_goes (a0 := w1) S hK hA hP hD hS tl_X12_194 ⟨Nat.le_of_ble_eq_true rfl, Nat.le_of_ble_eq_true rfl⟩ hl.1 (Nat.le_of_ble_eq_true rfl) dX12_toRegister_60 (fun H locs hP hD hS => ?_)
    exact hend (F_X12_goes τ w1) H locs 63 ls (Option.some.inj hf) hP hD hS dX12_toRegister_63
  unfold F_X12_toRegister at hf
  refine lv_aload_n hx hb dX12_toRegister_0 rfl (lv_at hl 0 rfl) ?_
  refine lv_bipush (v := 22) hx hb dX12_toRegister_1 (by decide) ?_
  refine lv_bipush (v := 21) hx hb dX12_toRegister_3 (by decide) ?_
  obtain ⟨v1, e_v1, hf⟩ := Option.bind_eq_some_iff.mp hf
  refine k_X12_f (a0 := (22 : Int32)) (a1 := (21 : Int32)) (res := v1) (hres := e_v1) S hK hP tl_X12_121 ⟨Nat.le_of_ble_eq_true rfl, Nat.le_of_ble_eq_true rfl⟩ hl.1 (Nat.le_of_ble_eq_true rfl) dX12_toRegister_5 ?_
  refine lv_iconst (v := 3) hx hb dX12_toRegister_8 (by decide) ?_
  refine lv_icmp_ne (tgt := 17) hx hb dX12_toRegister_9 (by decide) (fun c_9 => ?_) (fun c_9 => ?_)
  · rw [if_neg c_9] at hf
    refine lv_aload_n hx hb dX12_toRegister_17 rfl (lv_at hl 0 rfl) ?_
    refine lv_aload_n hx hb dX12_toRegister_18 rfl (lv_at hl 0 rfl) ?_
    refine lv_bipush (v := 9) hx hb dX12_toRegister_19 (by decide) ?_
    refine lv_iconst (v := 5) hx hb dX12_toRegister_21 (by decide) ?_
    obtain ⟨v2, e_v2, hf⟩ := Option.bind_eq_some_iff.mp hf
    refine k_X12_f (a0 := (9 : Int32)) (a1 := (5 : Int32)) (res := v2) (hres := e_v2) S hK hP tl_X12_121 ⟨Nat.le_of_ble_eq_true rfl, Nat.le_of_ble_eq_true rfl⟩ hl.1 (Nat.le_of_ble_eq_true rfl) dX12_toRegister_22 ?_
    obtain ⟨v3, e_v3, hf⟩ := Option.bind_eq_some_iff.mp hf
    refine k_X12_reg (a0 := v2) (res := v3) (hres := e_v3) S hK hP tl_X12_161 ⟨Nat.le_of_ble_eq_true rfl, Nat.le_of_ble_eq_true rfl⟩ hl.1 (Nat.le_of_ble_eq_true rfl) dX12_toRegister_25 ?_
    refine lv_lstore_n (lv' := [(1, .long v3), (0, .ref (r 0))]) hx hb dX12_toRegister_28 rfl hl (by decide) rfl (fun ls hl => ?_)
    refine lv_aload_n hx hb dX12_toRegister_29 rfl (lv_at hl 1 rfl) ?_
    refine lv_bipush (v := 22) hx hb dX12_toRegister_30 (by decide) ?_
    refine lv_bipush (v := 21) hx hb dX12_toRegister_32 (by decide) ?_
    obtain ⟨v4, e_v4, hf⟩ := Option.bind_eq_some_iff.mp hf
    refine k_X12_f (a0 := (22 : Int32)) (a1 := (21 : Int32)) (res := v4) (hres := e_v4) S hK hP tl_X12_121 ⟨Nat.le_of_ble_eq_true rfl, Nat.le_of_ble_eq_true rfl⟩ hl.1 (Nat.le_of_ble_eq_true rfl) dX12_toRegister_34 ?_
    refine lv_iconst (v := 1) hx hb dX12_toRegister_37 (by decide) ?_
    refine lv_icmp_ne (tgt := 58) hx hb dX12_toRegister_38 (by decide) (fun c_38 => ?_) (fun c_38 => ?_)
    · rw [if_neg c_38] at hf
      exact J_c58 σ v3 H locs ls hf hP hD hS (lv_sub hl [1, 0] rfl)
    · rw [if_pos c_38] at hf
      refine lv_aload_n hx hb dX12_toRegister_41 rfl (lv_at hl 1 rfl) ?_
      refine fg_X12_x S hK hP tf_X12_18 dX12_toRegister_42 ?_
      refine lv_bipush (v := 30) hx hb dX12_toRegister_45 (by decide) ?_
      refine lv_aload_n hx hb dX12_toRegister_47 rfl (lv_at hl 1 rfl) ?_
      refine fg_X12_state S hK hP tf_X12_22 dX12_toRegister_48 ?_
      refine lv_iconst (v := 2) hx hb dX12_toRegister_51 (by decide) ?_
      refine al_m_state S hK hP (show vp_in (2 : Int32) 11 by unfold vp_in; decide) dX12_toRegister_52 ?_
      refine lv_ldc2 (v := 4) hx hb hown (hts _ tk_X12_90) dX12_toRegister_53 ?_
      refine lv_ladd hx hb dX12_toRegister_56 ?_
      refine ar_m_x (x := ((m_state σ (2 : Int32).toNatClampNeg) + (4 : Int64))) S hK hP hD hS (show vp_in (30 : Int32) 32 by unfold vp_in; decide) dX12_toRegister_57 (fun H locs hP hD hS => ?_)
      exact J_c58 (mu_x σ (vp_updL (m_x σ) (30 : Int32).toNatClampNeg ((m_state σ (2 : Int32).toNatClampNeg) + (4 : Int64)))) v3 H locs ls hf hP hD hS (lv_sub hl [1, 0] rfl)
  · rw [if_pos c_9] at hf
    refine lv_aload_n hx hb dX12_toRegister_12 rfl (lv_at hl 0 rfl) ?_
    refine k_X12_none S hK hA hP hD hS tl_X12_158 ⟨Nat.le_of_ble_eq_true rfl, Nat.le_of_ble_eq_true rfl⟩ hl.1 (Nat.le_of_ble_eq_true rfl) dX12_toRegister_13 (fun H locs hP hD hS => ?_)
    exact hend (F_X12_none σ) H locs 16 ls (Option.some.inj hf) hP hD hS dX12_toRegister_16
theorem k_X12_toRegister {p : Program} {l : Launch} {e : Env} {R : Room} {s : State} {m : MethodId} {args : Array Value} {below : List Frame} {meth : Method} {c : Code} {H : Heap} {locs : List Loc} {Q : State → Prop} {cc : ByteArray} {pc : Nat} {ls : Array Slot} {rest : List Value} {own : String} {index nL : Nat} {A : Nat → Prop} {z : Cx} {r : Nat → Nat} {σ : MS} {res : MS} (hres : F_X12_toRegister σ = some res) (S : CallFix p m c cc nL s args tbG own) (hK : va_K z.1 vwCl (cxT z) s) (hA : ∀ q, s.heap.size ≤ q → A q) (hP : va_P z.1 vwCl (mW z r σ) H) (hD : va_D A (mW z r σ)) (hS : va_S A s.heap H locs) (hl : Cond.methodLink own index yX12_toRegister ∈ tbG) (hR : 3 + 1 ≤ R.frames ∧ 8 + (3 + 11) + 72 ≤ R.locals) (hsz : ls.size = nL) (hcat : (rest.map fun v => v.category).sum ≤ 8) (hdg : decode cc pc = .ok (.invokevirtual index, 3)) (kk : ∀ (H : Heap) (locs : List Loc), va_P z.1 vwCl (mW z r res) H → va_D A (mW z r res) → va_S A s.heap H locs → W p l e R s m args below meth c H locs 0 0 Q (F0 m (pc + 3) ls (rest))) : W p l e R s m args below meth c H locs 0 0 Q (F0 m pc ls (.ref (r 0) :: rest)) :=
  km (As := []) (ov := none) (w' := mW z r res) (q0 := 0) (ci := 11) S hK hA hP hD hS (c_X12_toRegister l z r σ H.size _ hres) ⟨tb_cB 0 S.2.2.2.2 tc_X12_toRegister ti_X12 hl rfl rfl (by decide +kernel) hR, S.2.2.2.2 _ tm_X12_toRegister, S.2.2.2.2 _ te_X12_toRegister⟩ rfl rfl rfl rfl hsz rfl hcat hdg kk

theorem dX12_baseStands_0 : decode cX12_baseStands 0 = .ok (.iload_n 1, 1) := by decide +kernel
theorem dX12_baseStands_1 : decode cX12_baseStands 1 = .ok (.bipush 31, 2) := by decide +kernel
theorem dX12_baseStands_3 : decode cX12_baseStands 3 = .ok (.if_icmp .ne 21, 3) := by decide +kernel
theorem dX12_baseStands_6 : decode cX12_baseStands 6 = .ok (.aload_n 0, 1) := by decide +kernel
theorem dX12_baseStands_7 : decode cX12_baseStands 7 = .ok (.getfield 22, 3) := by decide +kernel
theorem dX12_baseStands_10 : decode cX12_baseStands 10 = .ok (.aload_n 0, 1) := by decide +kernel
theorem dX12_baseStands_11 : decode cX12_baseStands 11 = .ok (.invokevirtual 112, 3) := by decide +kernel
theorem dX12_baseStands_14 : decode cX12_baseStands 14 = .ok (.laload, 1) := by decide +kernel
theorem dX12_baseStands_15 : decode cX12_baseStands 15 = .ok (.ldc2_w 198, 3) := by decide +kernel
theorem dX12_baseStands_18 : decode cX12_baseStands 18 = .ok (.land, 1) := by decide +kernel
theorem dX12_baseStands_19 : decode cX12_baseStands 19 = .ok (.lconst 0, 1) := by decide +kernel
theorem dX12_baseStands_20 : decode cX12_baseStands 20 = .ok (.lcmp, 1) := by decide +kernel
theorem dX12_baseStands_21 : decode cX12_baseStands 21 = .ok (.ifCond .ne 5, 3) := by decide +kernel
theorem dX12_baseStands_24 : decode cX12_baseStands 24 = .ok (.iconst 1, 1) := by decide +kernel
theorem dX12_baseStands_25 : decode cX12_baseStands 25 = .ok (.ireturn, 1) := by decide +kernel
theorem dX12_baseStands_26 : decode cX12_baseStands 26 = .ok (.aload_n 0, 1) := by decide +kernel
theorem dX12_baseStands_27 : decode cX12_baseStands 27 = .ok (.bipush 38, 2) := by decide +kernel
theorem dX12_baseStands_29 : decode cX12_baseStands 29 = .ok (.lconst 0, 1) := by decide +kernel
theorem dX12_baseStands_30 : decode cX12_baseStands 30 = .ok (.aload_n 0, 1) := by decide +kernel
theorem dX12_baseStands_31 : decode cX12_baseStands 31 = .ok (.getfield 22, 3) := by decide +kernel
theorem dX12_baseStands_34 : decode cX12_baseStands 34 = .ok (.iconst 2, 1) := by decide +kernel
theorem dX12_baseStands_35 : decode cX12_baseStands 35 = .ok (.laload, 1) := by decide +kernel
theorem dX12_baseStands_36 : decode cX12_baseStands 36 = .ok (.invokevirtual 106, 3) := by decide +kernel
theorem dX12_baseStands_39 : decode cX12_baseStands 39 = .ok (.iconst 0, 1) := by decide +kernel
theorem dX12_baseStands_40 : decode cX12_baseStands 40 = .ok (.ireturn, 1) := by decide +kernel
def F_X12_baseStands (σ : MS) (a0 : Int32) : Option (Bool × MS) := (if a0 = (31 : Int32) then (if ((F_X12_pointer σ) < 0 ∨ 11 ≤ (F_X12_pointer σ).toNatClampNeg) then none else (if ((m_state σ (F_X12_pointer σ).toNatClampNeg) &&& (15 : Int64)) = (0 : Int64) then some ((true, σ)) else some ((false, (F_X12_exception σ (38 : Int32) (0 : Int64) (m_state σ (2 : Int32).toNatClampNeg)))))) else some ((true, σ)))
set_option maxHeartbeats 4000000 in
set_option maxRecDepth 100000 in
theorem c_X12_baseStands (l : Launch) (z : Cx) (r : Nat → Nat) (σ : MS) (a0 : Int32) (sz : Nat) (res : Bool × MS) (hf : F_X12_baseStands σ a0 = some res) : Met l yX12_baseStands (wsC yX12_baseStands cX12_baseStands 2 (some .boolean)) { frames := 2, cells := 0, slots := 0, locals := 52 } (mPc z (mW z r σ) sz [.ref (r 0), .int a0]) (gM z (va_A (mW z r σ) sz) (some (.int (zB res.1))) (mW z r res.2)) 0 0 (va_A (mW z r σ) sz) := by
  refine mk_m_z (own := RX12) (wf := mW z r) (by decide) rfl sz _ (Nat.le_of_ble_eq_true rfl) (fun p e s m below meth c A H locs Q ls S hK hA hP hD hS hl hend => ?_)
  have hx := S.1
  have hb := S.2.1
  have hown := S.2.2.2.1
  have hts := S.2.2.2.2
  have hl : lv_has ls 2 [(0, .ref (r 0)), (1, .int a0)] := hl
  unfold F_X12_baseStands at hf
  refine lv_iload_n hx hb dX12_baseStands_0 rfl (lv_at hl 1 rfl) ?_
  refine lv_bipush (v := 31) hx hb dX12_baseStands_1 (by decide) ?_
  refine lv_icmp_ne (tgt := 24) hx hb dX12_baseStands_3 (by decide) (fun c_3 => ?_) (fun c_3 => ?_)
  · rw [if_neg c_3] at hf
    refine lv_iconst (v := 1) hx hb dX12_baseStands_24 (by decide) ?_
    exact hend true σ H locs 25 ls (Option.some.inj hf) hP hD hS dX12_baseStands_25
  · rw [if_pos c_3] at hf
    refine lv_aload_n hx hb dX12_baseStands_6 rfl (lv_at hl 0 rfl) ?_
    refine fg_X12_state S hK hP tf_X12_22 dX12_baseStands_7 ?_
    refine lv_aload_n hx hb dX12_baseStands_10 rfl (lv_at hl 0 rfl) ?_
    refine k_X12_pointer S hK hP tl_X12_112 ⟨Nat.le_of_ble_eq_true rfl, Nat.le_of_ble_eq_true rfl⟩ hl.1 (Nat.le_of_ble_eq_true rfl) dX12_baseStands_11 ?_
    by_cases c_14 : ((F_X12_pointer σ) < 0 ∨ 11 ≤ (F_X12_pointer σ).toNatClampNeg)
    · rw [if_pos c_14] at hf
      cases hf
    rw [if_neg c_14] at hf
    refine al_m_state S hK hP c_14 dX12_baseStands_14 ?_
    refine lv_ldc2 (v := 15) hx hb hown (hts _ tk_X12_198) dX12_baseStands_15 ?_
    refine lv_land hx hb dX12_baseStands_18 ?_
    refine lv_lconst (v := 0) hx hb dX12_baseStands_19 (by decide) ?_
    refine gl_ne (tgt := 26) hx hb dX12_baseStands_20 dX12_baseStands_21 (by decide) (fun c_20 => ?_) (fun c_20 => ?_)
    · rw [if_neg c_20] at hf
      refine lv_aload_n hx hb dX12_baseStands_26 rfl (lv_at hl 0 rfl) ?_
      refine lv_bipush (v := 38) hx hb dX12_baseStands_27 (by decide) ?_
      refine lv_lconst (v := 0) hx hb dX12_baseStands_29 (by decide) ?_
      refine lv_aload_n hx hb dX12_baseStands_30 rfl (lv_at hl 0 rfl) ?_
      refine fg_X12_state S hK hP tf_X12_22 dX12_baseStands_31 ?_
      refine lv_iconst (v := 2) hx hb dX12_baseStands_34 (by decide) ?_
      refine al_m_state S hK hP (show vp_in (2 : Int32) 11 by unfold vp_in; decide) dX12_baseStands_35 ?_
      refine k_X12_exception (a0 := (38 : Int32)) (a1 := (0 : Int64)) (a2 := (m_state σ (2 : Int32).toNatClampNeg)) S hK hA hP hD hS tl_X12_106 ⟨Nat.le_of_ble_eq_true rfl, Nat.le_of_ble_eq_true rfl⟩ hl.1 (Nat.le_of_ble_eq_true rfl) dX12_baseStands_36 (fun H locs hP hD hS => ?_)
      refine lv_iconst (v := 0) hx hb dX12_baseStands_39 (by decide) ?_
      exact hend false (F_X12_exception σ (38 : Int32) (0 : Int64) (m_state σ (2 : Int32).toNatClampNeg)) H locs 40 ls (Option.some.inj hf) hP hD hS dX12_baseStands_40
    · rw [if_pos c_20] at hf
      refine lv_iconst (v := 1) hx hb dX12_baseStands_24 (by decide) ?_
      exact hend true σ H locs 25 ls (Option.some.inj hf) hP hD hS dX12_baseStands_25
theorem k_X12_baseStands {p : Program} {l : Launch} {e : Env} {R : Room} {s : State} {m : MethodId} {args : Array Value} {below : List Frame} {meth : Method} {c : Code} {H : Heap} {locs : List Loc} {Q : State → Prop} {cc : ByteArray} {pc : Nat} {ls : Array Slot} {rest : List Value} {own : String} {index nL : Nat} {A : Nat → Prop} {z : Cx} {r : Nat → Nat} {σ : MS} {a0 : Int32} {res : Bool × MS} (hres : F_X12_baseStands σ a0 = some res) (S : CallFix p m c cc nL s args tbG own) (hK : va_K z.1 vwCl (cxT z) s) (hA : ∀ q, s.heap.size ≤ q → A q) (hP : va_P z.1 vwCl (mW z r σ) H) (hD : va_D A (mW z r σ)) (hS : va_S A s.heap H locs) (hl : Cond.methodLink own index yX12_baseStands ∈ tbG) (hR : 2 + 1 ≤ R.frames ∧ 8 + (2 + 11) + 52 ≤ R.locals) (hsz : ls.size = nL) (hcat : (rest.map fun v => v.category).sum ≤ 8) (hdg : decode cc pc = .ok (.invokevirtual index, 3)) (kk : ∀ (H : Heap) (locs : List Loc), va_P z.1 vwCl (mW z r res.2) H → va_D A (mW z r res.2) → va_S A s.heap H locs → W p l e R s m args below meth c H locs 0 0 Q (F0 m (pc + 3) ls (.int (zB res.1) :: rest))) : W p l e R s m args below meth c H locs 0 0 Q (F0 m pc ls (.int a0 :: .ref (r 0) :: rest)) :=
  km (As := [.int a0]) (ov := some (.int (zB res.1))) (w' := mW z r res.2) (q0 := 0) (ci := 11) S hK hA hP hD hS (c_X12_baseStands l z r σ a0 H.size _ hres) ⟨tb_cB 1 S.2.2.2.2 tc_X12_baseStands ti_X12 hl rfl rfl (by decide +kernel) hR, S.2.2.2.2 _ tm_X12_baseStands, S.2.2.2.2 _ te_X12_baseStands⟩ rfl rfl rfl rfl hsz rfl hcat hdg kk

theorem dX12_reaches_0 : decode cX12_reaches 0 = .ok (.iconst 1, 1) := by decide +kernel
theorem dX12_reaches_1 : decode cX12_reaches 1 = .ok (.istore 5, 2) := by decide +kernel
theorem dX12_reaches_3 : decode cX12_reaches 3 = .ok (.lload_n 1, 1) := by decide +kernel
theorem dX12_reaches_4 : decode cX12_reaches 4 = .ok (.iload_n 3, 1) := by decide +kernel
theorem dX12_reaches_5 : decode cX12_reaches 5 = .ok (.i2l, 1) := by decide +kernel
theorem dX12_reaches_6 : decode cX12_reaches 6 = .ok (.lconst 1, 1) := by decide +kernel
theorem dX12_reaches_7 : decode cX12_reaches 7 = .ok (.lsub, 1) := by decide +kernel
theorem dX12_reaches_8 : decode cX12_reaches 8 = .ok (.land, 1) := by decide +kernel
theorem dX12_reaches_9 : decode cX12_reaches 9 = .ok (.lconst 0, 1) := by decide +kernel
theorem dX12_reaches_10 : decode cX12_reaches 10 = .ok (.lcmp, 1) := by decide +kernel
theorem dX12_reaches_11 : decode cX12_reaches 11 = .ok (.ifCond .eq 11, 3) := by decide +kernel
theorem dX12_reaches_14 : decode cX12_reaches 14 = .ok (.aload_n 0, 1) := by decide +kernel
theorem dX12_reaches_15 : decode cX12_reaches 15 = .ok (.bipush 33, 2) := by decide +kernel
theorem dX12_reaches_17 : decode cX12_reaches 17 = .ok (.invokevirtual 76, 3) := by decide +kernel
theorem dX12_reaches_20 : decode cX12_reaches 20 = .ok (.istore 5, 2) := by decide +kernel
theorem dX12_reaches_22 : decode cX12_reaches 22 = .ok (.iconst 0, 1) := by decide +kernel
theorem dX12_reaches_23 : decode cX12_reaches 23 = .ok (.istore 6, 2) := by decide +kernel
theorem dX12_reaches_25 : decode cX12_reaches 25 = .ok (.iload 4, 2) := by decide +kernel
theorem dX12_reaches_27 : decode cX12_reaches 27 = .ok (.ifCond .eq 6, 3) := by decide +kernel
theorem dX12_reaches_30 : decode cX12_reaches 30 = .ok (.iconst 1, 1) := by decide +kernel
theorem dX12_reaches_31 : decode cX12_reaches 31 = .ok (.istore 6, 2) := by decide +kernel
theorem dX12_reaches_33 : decode cX12_reaches 33 = .ok (.iload 5, 2) := by decide +kernel
theorem dX12_reaches_35 : decode cX12_reaches 35 = .ok (.ifCond .eq 29, 3) := by decide +kernel
theorem dX12_reaches_38 : decode cX12_reaches 38 = .ok (.aload_n 0, 1) := by decide +kernel
theorem dX12_reaches_39 : decode cX12_reaches 39 = .ok (.lload_n 1, 1) := by decide +kernel
theorem dX12_reaches_40 : decode cX12_reaches 40 = .ok (.iload 6, 2) := by decide +kernel
theorem dX12_reaches_42 : decode cX12_reaches 42 = .ok (.aload_n 0, 1) := by decide +kernel
theorem dX12_reaches_43 : decode cX12_reaches 43 = .ok (.getfield 28, 3) := by decide +kernel
theorem dX12_reaches_46 : decode cX12_reaches 46 = .ok (.invokevirtual 200, 3) := by decide +kernel
theorem dX12_reaches_49 : decode cX12_reaches 49 = .ok (.ifCond .eq 15, 3) := by decide +kernel
theorem dX12_reaches_52 : decode cX12_reaches 52 = .ok (.aload_n 0, 1) := by decide +kernel
theorem dX12_reaches_53 : decode cX12_reaches 53 = .ok (.iload_n 3, 1) := by decide +kernel
theorem dX12_reaches_54 : decode cX12_reaches 54 = .ok (.invokevirtual 204, 3) := by decide +kernel
theorem dX12_reaches_57 : decode cX12_reaches 57 = .ok (.ifCond .eq 7, 3) := by decide +kernel
theorem dX12_reaches_60 : decode cX12_reaches 60 = .ok (.iconst 1, 1) := by decide +kernel
theorem dX12_reaches_61 : decode cX12_reaches 61 = .ok (.goto 4, 3) := by decide +kernel
theorem dX12_reaches_64 : decode cX12_reaches 64 = .ok (.iconst 0, 1) := by decide +kernel
theorem dX12_reaches_65 : decode cX12_reaches 65 = .ok (.istore 5, 2) := by decide +kernel
theorem dX12_reaches_67 : decode cX12_reaches 67 = .ok (.iload 5, 2) := by decide +kernel
theorem dX12_reaches_69 : decode cX12_reaches 69 = .ok (.ifCond .ne 10, 3) := by decide +kernel
theorem dX12_reaches_72 : decode cX12_reaches 72 = .ok (.aload_n 0, 1) := by decide +kernel
theorem dX12_reaches_73 : decode cX12_reaches 73 = .ok (.lload_n 1, 1) := by decide +kernel
theorem dX12_reaches_74 : decode cX12_reaches 74 = .ok (.iload 4, 2) := by decide +kernel
theorem dX12_reaches_76 : decode cX12_reaches 76 = .ok (.invokevirtual 207, 3) := by decide +kernel
theorem dX12_reaches_79 : decode cX12_reaches 79 = .ok (.iload 5, 2) := by decide +kernel
theorem dX12_reaches_81 : decode cX12_reaches 81 = .ok (.ireturn, 1) := by decide +kernel
def F_X12_reaches_c65 (τ : MS) (a0 : Int64) (a1 : Int32) (a2 : Bool) (s0 : Bool) : Option (Bool × MS) := (if s0 = true then some ((s0, τ)) else some ((s0, (F_X12_dataFault τ a0 a2))))
def F_X12_reaches_c64 (τ : MS) (a0 : Int64) (a1 : Int32) (a2 : Bool) : Option (Bool × MS) := (F_X12_reaches_c65 τ a0 a1 a2 false)
def F_X12_reaches_c33 (τ : MS) (a0 : Int64) (a1 : Int32) (a2 : Bool) (w5 : Bool) (w6 : Bool) : Option (Bool × MS) := (if w5 = true then ((F_X12_leads τ a0 (zB w6) (m_level τ)).bind fun v1 => (if v1.1 = true then (if (F_X12_inside v1.2 a1).1 = true then (F_X12_reaches_c65 (F_X12_inside v1.2 a1).2 a0 a1 a2 true) else (F_X12_reaches_c64 (F_X12_inside v1.2 a1).2 a0 a1 a2)) else (F_X12_reaches_c64 v1.2 a0 a1 a2))) else (F_X12_reaches_c64 τ a0 a1 a2))
def F_X12_reaches_c22 (τ : MS) (a0 : Int64) (a1 : Int32) (a2 : Bool) (w5 : Bool) : Option (Bool × MS) := (if a2 = true then (F_X12_reaches_c33 τ a0 a1 a2 w5 true) else (F_X12_reaches_c33 τ a0 a1 a2 w5 false))
def F_X12_reaches (σ : MS) (a0 : Int64) (a1 : Int32) (a2 : Bool) : Option (Bool × MS) := (if (a0 &&& (a1.toInt64 - (1 : Int64))) = (0 : Int64) then (F_X12_reaches_c22 σ a0 a1 a2 true) else (F_X12_reaches_c22 (F_X12_wrong σ (33 : Int32)).2 a0 a1 a2 (F_X12_wrong σ (33 : Int32)).1))
set_option maxHeartbeats 4000000 in
set_option maxRecDepth 100000 in
theorem c_X12_reaches (l : Launch) (z : Cx) (r : Nat → Nat) (σ : MS) (a0 : Int64) (a1 : Int32) (a2 : Bool) (sz : Nat) (res : Bool × MS) (hf : F_X12_reaches σ a0 a1 a2 = some res) : Met l yX12_reaches (wsC yX12_reaches cX12_reaches 7 (some .boolean)) { frames := 3, cells := 0, slots := 0, locals := 77 } (mPc z (mW z r σ) sz [.ref (r 0), .long a0, .int a1, .int (zB a2)]) (gM z (va_A (mW z r σ) sz) (some (.int (zB res.1))) (mW z r res.2)) 0 0 (va_A (mW z r σ) sz) := by
  refine mk_m_z (own := RX12) (wf := mW z r) (by decide) rfl sz _ (Nat.le_of_ble_eq_true rfl) (fun p e s m below meth c A H locs Q ls S hK hA hP hD hS hl hend => ?_)
  have hx := S.1
  have hb := S.2.1
  have hown := S.2.2.2.1
  have hts := S.2.2.2.2
  have hl : lv_has ls 7 [(0, .ref (r 0)), (1, .long a0), (3, .int a1), (4, .int (zB a2))] := hl
  have J_c65 : ∀ (τ : MS) (s0 : Bool) (H : Heap) (locs : List Loc) (ls : Array Slot), F_X12_reaches_c65 τ a0 a1 a2 s0 = some res → va_P z.1 vwCl (mW z r τ) H → va_D A (mW z r τ) → va_S A s.heap H locs → lv_has ls 7 [(0, .ref (r 0)), (1, .long a0), (4, .int (zB a2))] → W p l e { frames := 3, cells := 0, slots := 0, locals := 77 } s m ([.ref (r 0), .long a0, .int a1, .int (zB a2)] : List Value).toArray below meth c H locs 0 0 Q (F0 m 65 ls [.int (zB s0)]) := by
    intro τ s0 H locs ls hf hP hD hS hl
    unfold F_X12_reaches_c65 at hf
    refine lv_istore (lv' := [(5, .int (zB s0)), (0, .ref (r 0)), (1, .long a0), (4, .int (zB a2))]) hx hb dX12_reaches_65 hl (by decide) rfl (fun ls hl => ?_)
    refine lv_iload hx hb dX12_reaches_67 (lv_at hl 0 rfl) ?_
    refine gz_ne (tgt := 79) hx hb dX12_reaches_69 (by decide) (fun c_69 => ?_) (fun c_69 => ?_)
    · rw [if_pos c_69] at hf
      refine lv_iload hx hb dX12_reaches_79 (lv_at hl 0 rfl) ?_
      exact hend s0 τ H locs 81 ls (Option.some.inj hf) hP hD hS dX12_reaches_81
    · rw [if_neg c_69] at hf
      refine lv_aload_n hx hb dX12_reaches_72 rfl (lv_at hl 1 rfl) ?_
      refine lv_lload_n hx hb dX12_reaches_73 rfl (lv_at hl 2 rfl) ?_
      refine lv_iload hx hb dX12_reaches_74 (lv_at hl 3 rfl) ?_
      refine k_X12_dataFault (a0 := a0) (a1 := a2) S hK hA hP hD hS tl_X12_207 ⟨Nat.le_of_ble_eq_true rfl, Nat.le_of_ble_eq_true rfl⟩ hl.1 (Nat.le_of_ble_eq_true rfl) dX12_reaches_76 (fun H locs hP hD hS => ?_)
      refine lv_iload hx hb dX12_reaches_79 (lv_at hl 0 rfl) ?_
      exact hend s0 (F_X12_dataFault τ a0 a2) H locs 81 ls (Option.some.inj hf) hP hD hS dX12_reaches_81
  have J_c64 : ∀ (τ : MS) (H : Heap) (locs : List Loc) (ls : Array Slot), F_X12_reaches_c64 τ a0 a1 a2 = some res → va_P z.1 vwCl (mW z r τ) H → va_D A (mW z r τ) → va_S A s.heap H locs → lv_has ls 7 [(0, .ref (r 0)), (1, .long a0), (4, .int (zB a2))] → W p l e { frames := 3, cells := 0, slots := 0, locals := 77 } s m ([.ref (r 0), .long a0, .int a1, .int (zB a2)] : List Value).toArray below meth c H locs 0 0 Q (F0 m 64 ls []) := by
    intro τ H locs ls hf hP hD hS hl
    unfold F_X12_reaches_c64 at hf
    refine lv_iconst (v := 0) hx hb dX12_reaches_64 (by decide) ?_
    exact J_c65 τ false H locs ls hf hP hD hS (lv_sub hl [0, 1, 2] rfl)
  have J_c33 : ∀ (τ : MS) (w5 : Bool) (w6 : Bool) (H : Heap) (locs : List Loc) (ls : Array Slot), F_X12_reaches_c33 τ a0 a1 a2 w5 w6 = some res → va_P z.1 vwCl (mW z r τ) H → va_D A (mW z r τ) → va_S A s.heap H locs → lv_has ls 7 [(0, .ref (r 0)), (1, .long a0), (3, .int a1), (4, .int (zB a2)), (5, .int (zB w5)), (6, .int (zB w6))] → W p l e { frames := 3, cells := 0, slots := 0, locals := 77 } s m ([.ref (r 0), .long a0, .int a1, .int (zB a2)] : List Value).toArray below meth c H locs 0 0 Q (F0 m 33 ls []) := by
    intro τ w5 w6 H locs ls hf hP hD hS hl
    unfold F_X12_reaches_c33 at hf
    refine lv_iload hx hb dX12_reaches_33 (lv_at hl 4 rfl) ?_
    refine gz_eq (tgt := 64) hx hb dX12_reaches_35 (by decide) (fun c_35 => ?_) (fun c_35 => ?_)
    · rw [if_neg c_35] at hf
      exact J_c64 τ H locs ls hf hP hD hS (lv_sub hl [0, 1, 3] rfl)
    · rw [if_pos c_35] at hf
      refine lv_aload_n hx hb dX12_reaches_38 rfl (lv_at hl 0 rfl) ?_
      refine lv_lload_n hx hb dX12_reaches_39 rfl (lv_at hl 1 rfl) ?_
      refine lv_iload hx hb dX12_reaches_40 (lv_at hl 5 rfl) ?_
      refine lv_aload_n hx hb dX12_reaches_42 rfl (lv_at hl 0 rfl) ?_
      refine fg_X12_level S hK hP tf_X12_28 dX12_reaches_43 ?_
      obtain ⟨v1, e_v1, hf⟩ := Option.bind_eq_some_iff.mp hf
      refine k_X12_leads (a0 := a0) (a1 := (zB w6)) (a2 := (m_level τ)) (res := v1) (hres := e_v1) S hK hA hP hD hS tl_X12_200 ⟨Nat.le_of_ble_eq_true rfl, Nat.le_of_ble_eq_true rfl⟩ hl.1 (Nat.le_of_ble_eq_true rfl) dX12_reaches_46 (fun H locs hP hD hS => ?_)
      refine gz_eq (tgt := 64) hx hb dX12_reaches_49 (by decide) (fun c_49 => ?_) (fun c_49 => ?_)
      · rw [if_neg c_49] at hf
        exact J_c64 v1.2 H locs ls hf hP hD hS (lv_sub hl [0, 1, 3] rfl)
      · rw [if_pos c_49] at hf
        refine lv_aload_n hx hb dX12_reaches_52 rfl (lv_at hl 0 rfl) ?_
        refine lv_iload_n hx hb dX12_reaches_53 rfl (lv_at hl 2 rfl) ?_
        refine k_X12_inside (a0 := a1) S hK hA hP hD hS tl_X12_204 ⟨Nat.le_of_ble_eq_true rfl, Nat.le_of_ble_eq_true rfl⟩ hl.1 (Nat.le_of_ble_eq_true rfl) dX12_reaches_54 (fun H locs hP hD hS => ?_)
        refine gz_eq (tgt := 64) hx hb dX12_reaches_57 (by decide) (fun c_57 => ?_) (fun c_57 => ?_)
        · rw [if_neg c_57] at hf
          exact J_c64 (F_X12_inside v1.2 a1).2 H locs ls hf hP hD hS (lv_sub hl [0, 1, 3] rfl)
        · rw [if_pos c_57] at hf
          refine lv_iconst (v := 1) hx hb dX12_reaches_60 (by decide) ?_
          refine lv_goto (tgt := 65) hx hb dX12_reaches_61 (by decide) ?_
          exact J_c65 (F_X12_inside v1.2 a1).2 true H locs ls hf hP hD hS (lv_sub hl [0, 1, 3] rfl)
  have J_c22 : ∀ (τ : MS) (w5 : Bool) (H : Heap) (locs : List Loc) (ls : Array Slot), F_X12_reaches_c22 τ a0 a1 a2 w5 = some res → va_P z.1 vwCl (mW z r τ) H → va_D A (mW z r τ) → va_S A s.heap H locs → lv_has ls 7 [(0, .ref (r 0)), (1, .long a0), (3, .int a1), (4, .int (zB a2)), (5, .int (zB w5))] → W p l e { frames := 3, cells := 0, slots := 0, locals := 77 } s m ([.ref (r 0), .long a0, .int a1, .int (zB a2)] : List Value).toArray below meth c H locs 0 0 Q (F0 m 22 ls []) := by
    intro τ w5 H locs ls hf hP hD hS hl
    unfold F_X12_reaches_c22 at hf
    refine lv_iconst (v := 0) hx hb dX12_reaches_22 (by decide) ?_
    refine lv_istore (lv' := [(6, .int (0 : Int32)), (0, .ref (r 0)), (1, .long a0), (3, .int a1), (4, .int (zB a2)), (5, .int (zB w5))]) hx hb dX12_reaches_23 hl (by decide) rfl (fun ls hl => ?_)
    refine lv_iload hx hb dX12_reaches_25 (lv_at hl 4 rfl) ?_
    refine gz_eq (tgt := 33) hx hb dX12_reaches_27 (by decide) (fun c_27 => ?_) (fun c_27 => ?_)
    · rw [if_neg c_27] at hf
      exact J_c33 τ w5 false H locs ls hf hP hD hS (lv_sub hl [1, 2, 3, 4, 5, 0] rfl)
    · rw [if_pos c_27] at hf
      refine lv_iconst (v := 1) hx hb dX12_reaches_30 (by decide) ?_
      refine lv_istore (lv' := [(6, .int (1 : Int32)), (0, .ref (r 0)), (1, .long a0), (3, .int a1), (4, .int (zB a2)), (5, .int (zB w5))]) hx hb dX12_reaches_31 hl (by decide) rfl (fun ls hl => ?_)
      exact J_c33 τ w5 true H locs ls hf hP hD hS (lv_sub hl [1, 2, 3, 4, 5, 0] rfl)
  unfold F_X12_reaches at hf
  refine lv_iconst (v := 1) hx hb dX12_reaches_0 (by decide) ?_
  refine lv_istore (lv' := [(5, .int (1 : Int32)), (0, .ref (r 0)), (1, .long a0), (3, .int a1), (4, .int (zB a2))]) hx hb dX12_reaches_1 hl (by decide) rfl (fun ls hl => ?_)
  refine lv_lload_n hx hb dX12_reaches_3 rfl (lv_at hl 2 rfl) ?_
  refine lv_iload_n hx hb dX12_reaches_4 rfl (lv_at hl 3 rfl) ?_
  refine lv_i2l hx hb dX12_reaches_5 rfl ?_
  refine lv_lconst (v := 1) hx hb dX12_reaches_6 (by decide) ?_
  refine lv_lsub hx hb dX12_reaches_7 ?_
  refine lv_land hx hb dX12_reaches_8 ?_
  refine lv_lconst (v := 0) hx hb dX12_reaches_9 (by decide) ?_
  refine gl_eq (tgt := 22) hx hb dX12_reaches_10 dX12_reaches_11 (by decide) (fun c_10 => ?_) (fun c_10 => ?_)
  · rw [if_pos c_10] at hf
    exact J_c22 σ true H locs ls hf hP hD hS (lv_sub hl [1, 2, 3, 4, 0] rfl)
  · rw [if_neg c_10] at hf
    refine lv_aload_n hx hb dX12_reaches_14 rfl (lv_at hl 1 rfl) ?_
    refine lv_bipush (v := 33) hx hb dX12_reaches_15 (by decide) ?_
    refine k_X12_wrong (a0 := (33 : Int32)) S hK hA hP hD hS tl_X12_76 ⟨Nat.le_of_ble_eq_true rfl, Nat.le_of_ble_eq_true rfl⟩ hl.1 (Nat.le_of_ble_eq_true rfl) dX12_reaches_17 (fun H locs hP hD hS => ?_)
    refine lv_istore (lv' := [(5, .int (zB (F_X12_wrong σ (33 : Int32)).1)), (0, .ref (r 0)), (1, .long a0), (3, .int a1), (4, .int (zB a2))]) hx hb dX12_reaches_20 hl (by decide) rfl (fun ls hl => ?_)
    exact J_c22 (F_X12_wrong σ (33 : Int32)).2 (F_X12_wrong σ (33 : Int32)).1 H locs ls hf hP hD hS (lv_sub hl [1, 2, 3, 4, 0] rfl)
theorem k_X12_reaches {p : Program} {l : Launch} {e : Env} {R : Room} {s : State} {m : MethodId} {args : Array Value} {below : List Frame} {meth : Method} {c : Code} {H : Heap} {locs : List Loc} {Q : State → Prop} {cc : ByteArray} {pc : Nat} {ls : Array Slot} {rest : List Value} {own : String} {index nL : Nat} {A : Nat → Prop} {z : Cx} {r : Nat → Nat} {σ : MS} {a0 : Int64} {a1 : Int32} {a2 : Bool} {res : Bool × MS} (hres : F_X12_reaches σ a0 a1 a2 = some res) (S : CallFix p m c cc nL s args tbG own) (hK : va_K z.1 vwCl (cxT z) s) (hA : ∀ q, s.heap.size ≤ q → A q) (hP : va_P z.1 vwCl (mW z r σ) H) (hD : va_D A (mW z r σ)) (hS : va_S A s.heap H locs) (hl : Cond.methodLink own index yX12_reaches ∈ tbG) (hR : 3 + 1 ≤ R.frames ∧ 8 + (7 + 11) + 77 ≤ R.locals) (hsz : ls.size = nL) (hcat : (rest.map fun v => v.category).sum ≤ 8) (hdg : decode cc pc = .ok (.invokevirtual index, 3)) (kk : ∀ (H : Heap) (locs : List Loc), va_P z.1 vwCl (mW z r res.2) H → va_D A (mW z r res.2) → va_S A s.heap H locs → W p l e R s m args below meth c H locs 0 0 Q (F0 m (pc + 3) ls (.int (zB res.1) :: rest))) : W p l e R s m args below meth c H locs 0 0 Q (F0 m pc ls (.int (zB a2) :: .int a1 :: .long a0 :: .ref (r 0) :: rest)) :=
  km (As := [.long a0, .int a1, .int (zB a2)]) (ov := some (.int (zB res.1))) (w' := mW z r res.2) (q0 := 0) (ci := 11) S hK hA hP hD hS (c_X12_reaches l z r σ a0 a1 a2 H.size _ hres) ⟨tb_cB 3 S.2.2.2.2 tc_X12_reaches ti_X12 hl rfl rfl (by decide +kernel) hR, S.2.2.2.2 _ tm_X12_reaches, S.2.2.2.2 _ te_X12_reaches⟩ rfl rfl rfl rfl hsz rfl hcat hdg kk

theorem dX12_keep_0 : decode cX12_keep 0 = .ok (.iconst 0, 1) := by decide +kernel
theorem dX12_keep_1 : decode cX12_keep 1 = .ok (.istore 4, 2) := by decide +kernel
theorem dX12_keep_3 : decode cX12_keep 3 = .ok (.iload 4, 2) := by decide +kernel
theorem dX12_keep_5 : decode cX12_keep 5 = .ok (.iload_n 1, 1) := by decide +kernel
theorem dX12_keep_6 : decode cX12_keep 6 = .ok (.if_icmp .ge 34, 3) := by decide +kernel
theorem dX12_keep_9 : decode cX12_keep 9 = .ok (.aload_n 0, 1) := by decide +kernel
theorem dX12_keep_10 : decode cX12_keep 10 = .ok (.getfield 14, 3) := by decide +kernel
theorem dX12_keep_13 : decode cX12_keep 13 = .ok (.aload_n 0, 1) := by decide +kernel
theorem dX12_keep_14 : decode cX12_keep 14 = .ok (.getfield 44, 3) := by decide +kernel
theorem dX12_keep_17 : decode cX12_keep 17 = .ok (.l2i, 1) := by decide +kernel
theorem dX12_keep_18 : decode cX12_keep 18 = .ok (.iload 4, 2) := by decide +kernel
theorem dX12_keep_20 : decode cX12_keep 20 = .ok (.iadd, 1) := by decide +kernel
theorem dX12_keep_21 : decode cX12_keep 21 = .ok (.lload_n 2, 1) := by decide +kernel
theorem dX12_keep_22 : decode cX12_keep 22 = .ok (.bipush 8, 2) := by decide +kernel
theorem dX12_keep_24 : decode cX12_keep 24 = .ok (.iload 4, 2) := by decide +kernel
theorem dX12_keep_26 : decode cX12_keep 26 = .ok (.imul, 1) := by decide +kernel
theorem dX12_keep_27 : decode cX12_keep 27 = .ok (.lshr, 1) := by decide +kernel
theorem dX12_keep_28 : decode cX12_keep 28 = .ok (.ldc2_w 189, 3) := by decide +kernel
theorem dX12_keep_31 : decode cX12_keep 31 = .ok (.land, 1) := by decide +kernel
theorem dX12_keep_32 : decode cX12_keep 32 = .ok (.l2i, 1) := by decide +kernel
theorem dX12_keep_33 : decode cX12_keep 33 = .ok (.iastore, 1) := by decide +kernel
theorem dX12_keep_34 : decode cX12_keep 34 = .ok (.iinc 4 1, 3) := by decide +kernel
theorem dX12_keep_37 : decode cX12_keep 37 = .ok (.goto (-34), 3) := by decide +kernel
theorem dX12_keep_40 : decode cX12_keep 40 = .ok (.return_, 1) := by decide +kernel
def F_X12_keep_c3 : Nat → MS → Int32 → Int64 → Int32 → Option (MS)
  | 0, _, _, _, _ => none
  | n + 1, τ, a0, a1, w4 => (if a0 ≤ w4 then some (τ) else (if (((m_place τ).toInt32 + w4) < 0 ∨ 65536 ≤ ((m_place τ).toInt32 + w4).toNatClampNeg) then none else (F_X12_keep_c3 n (mu_mem τ (upd (m_mem τ) ((m_place τ).toInt32 + w4).toNatClampNeg ((j_lshr a1 ((8 : Int32) * w4)) &&& (255 : Int64)).toInt32)) a0 a1 (w4 + (1)))))
def F_X12_keep (σ : MS) (a0 : Int32) (a1 : Int64) : Option (MS) := (F_X12_keep_c3 70 σ a0 a1 (0 : Int32))
set_option maxHeartbeats 4000000 in
set_option maxRecDepth 100000 in
theorem c_X12_keep (l : Launch) (z : Cx) (r : Nat → Nat) (σ : MS) (a0 : Int32) (a1 : Int64) (sz : Nat) (res : MS) (hf : F_X12_keep σ a0 a1 = some res) : Met l yX12_keep (wsC yX12_keep cX12_keep 5 none) { frames := 0, cells := 0, slots := 0, locals := 0 } (mPc z (mW z r σ) sz [.ref (r 0), .int a0, .long a1]) (gM z (va_A (mW z r σ) sz) none (mW z r res)) 0 0 (va_A (mW z r σ) sz) := by
  refine mk_m_v (own := RX12) (wf := mW z r) (by decide) rfl sz _ (Nat.le_of_ble_eq_true rfl) (fun p e s m below meth c A H locs Q ls S hK hA hP hD hS hl hend => ?_)
  have hx := S.1
  have hb := S.2.1
  have hown := S.2.2.2.1
  have hts := S.2.2.2.2
  have hl : lv_has ls 5 [(0, .ref (r 0)), (1, .int a0), (2, .long a1)] := hl
  have J_c3 : ∀ (n : Nat) (τ : MS) (w4 : Int32) (H : Heap) (locs : List Loc) (ls : Array Slot), F_X12_keep_c3 n τ a0 a1 w4 = some res → va_P z.1 vwCl (mW z r τ) H → va_D A (mW z r τ) → va_S A s.heap H locs → lv_has ls 5 [(0, .ref (r 0)), (1, .int a0), (2, .long a1), (4, .int w4)] → W p l e { frames := 0, cells := 0, slots := 0, locals := 0 } s m ([.ref (r 0), .int a0, .long a1] : List Value).toArray below meth c H locs 0 0 Q (F0 m 3 ls []) := by
    intro n
    induction n with
    | zero => intro τ w4 H locs ls hf; rw [F_X12_keep_c3] at hf; cases hf
    | succ n ih =>
      intro τ w4 H locs ls hf hP hD hS hl
      rw [F_X12_keep_c3] at hf
      refine lv_iload hx hb dX12_keep_3 (lv_at hl 3 rfl) ?_
      refine lv_iload_n hx hb dX12_keep_5 rfl (lv_at hl 1 rfl) ?_
      refine lv_icmp_ge (tgt := 40) hx hb dX12_keep_6 (by decide) (fun c_6 => ?_) (fun c_6 => ?_)
      · rw [if_pos c_6] at hf
        exact hend τ H locs 40 ls (Option.some.inj hf) hP hD hS dX12_keep_40
      · rw [if_neg c_6] at hf
        refine lv_aload_n hx hb dX12_keep_9 rfl (lv_at hl 0 rfl) ?_
        refine fg_X12_mem S hK hP tf_X12_14 dX12_keep_10 ?_
        refine lv_aload_n hx hb dX12_keep_13 rfl (lv_at hl 0 rfl) ?_
        refine fg_X12_place S hK hP tf_X12_44 dX12_keep_14 ?_
        refine lv_l2i hx hb dX12_keep_17 rfl ?_
        refine lv_iload hx hb dX12_keep_18 (lv_at hl 3 rfl) ?_
        refine lv_iadd hx hb dX12_keep_20 ?_
        refine lv_lload_n hx hb dX12_keep_21 rfl (lv_at hl 2 rfl) ?_
        refine lv_bipush (v := 8) hx hb dX12_keep_22 (by decide) ?_
        refine lv_iload hx hb dX12_keep_24 (lv_at hl 3 rfl) ?_
        refine lv_imul hx hb dX12_keep_26 ?_
        refine lv_lshr (v := (j_lshr a1 ((8 : Int32) * w4))) hx hb dX12_keep_27 rfl ?_
        refine lv_ldc2 (v := 255) hx hb hown (hts _ tk_X12_189) dX12_keep_28 ?_
        refine lv_land hx hb dX12_keep_31 ?_
        refine lv_l2i hx hb dX12_keep_32 rfl ?_
        by_cases c_33 : (((m_place τ).toInt32 + w4) < 0 ∨ 65536 ≤ ((m_place τ).toInt32 + w4).toNatClampNeg)
        · rw [if_pos c_33] at hf
          cases hf
        rw [if_neg c_33] at hf
        refine ar_m_mem (x := ((j_lshr a1 ((8 : Int32) * w4)) &&& (255 : Int64)).toInt32) S hK hP hD hS c_33 dX12_keep_33 (fun H locs hP hD hS => ?_)
        refine lv_iinc (v := w4 + (1)) (lv' := [(4, .int (w4 + (1))), (0, .ref (r 0)), (1, .int a0), (2, .long a1)]) hx hb dX12_keep_34 hl (k := 3) rfl rfl (by decide) rfl (fun ls hl => ?_)
        refine lv_goto (tgt := 3) hx hb dX12_keep_37 (by decide) ?_
        exact ih (mu_mem τ (upd (m_mem τ) ((m_place τ).toInt32 + w4).toNatClampNeg ((j_lshr a1 ((8 : Int32) * w4)) &&& (255 : Int64)).toInt32)) (w4 + (1)) H locs ls hf hP hD hS (lv_sub hl [1, 2, 3, 0] rfl)
  unfold F_X12_keep at hf
  refine lv_iconst (v := 0) hx hb dX12_keep_0 (by decide) ?_
  refine lv_istore (lv' := [(4, .int (0 : Int32)), (0, .ref (r 0)), (1, .int a0), (2, .long a1)]) hx hb dX12_keep_1 hl (by decide) rfl (fun ls hl => ?_)
  exact J_c3 70 σ (0 : Int32) H locs ls hf hP hD hS (lv_sub hl [1, 2, 3, 0] rfl)
theorem k_X12_keep {p : Program} {l : Launch} {e : Env} {R : Room} {s : State} {m : MethodId} {args : Array Value} {below : List Frame} {meth : Method} {c : Code} {H : Heap} {locs : List Loc} {Q : State → Prop} {cc : ByteArray} {pc : Nat} {ls : Array Slot} {rest : List Value} {own : String} {index nL : Nat} {A : Nat → Prop} {z : Cx} {r : Nat → Nat} {σ : MS} {a0 : Int32} {a1 : Int64} {res : MS} (hres : F_X12_keep σ a0 a1 = some res) (S : CallFix p m c cc nL s args tbG own) (hK : va_K z.1 vwCl (cxT z) s) (hA : ∀ q, s.heap.size ≤ q → A q) (hP : va_P z.1 vwCl (mW z r σ) H) (hD : va_D A (mW z r σ)) (hS : va_S A s.heap H locs) (hl : Cond.methodLink own index yX12_keep ∈ tbG) (hR : 0 + 1 ≤ R.frames ∧ 8 + (5 + 11) + 0 ≤ R.locals) (hsz : ls.size = nL) (hcat : (rest.map fun v => v.category).sum ≤ 8) (hdg : decode cc pc = .ok (.invokevirtual index, 3)) (kk : ∀ (H : Heap) (locs : List Loc), va_P z.1 vwCl (mW z r res) H → va_D A (mW z r res) → va_S A s.heap H locs → W p l e R s m args below meth c H locs 0 0 Q (F0 m (pc + 3) ls (rest))) : W p l e R s m args below meth c H locs 0 0 Q (F0 m pc ls (.long a1 :: .int a0 :: .ref (r 0) :: rest)) :=
  km (As := [.int a0, .long a1]) (ov := none) (w' := mW z r res) (q0 := 0) (ci := 11) S hK hA hP hD hS (c_X12_keep l z r σ a0 a1 H.size _ hres) ⟨tb_cB 2 S.2.2.2.2 tc_X12_keep ti_X12 hl rfl rfl (by decide +kernel) hR, S.2.2.2.2 _ tm_X12_keep, S.2.2.2.2 _ te_X12_keep⟩ rfl rfl rfl rfl hsz rfl hcat hdg kk

