theorem dX8_meets_0 : decode cX8_meets 0 = .ok (.aload_n 0, 1) := by decide +kernel
theorem dX8_meets_1 : decode cX8_meets 1 = .ok (.getfield 9, 3) := by decide +kernel
theorem dX8_meets_4 : decode cX8_meets 4 = .ok (.bipush 42, 2) := by decide +kernel
theorem dX8_meets_6 : decode cX8_meets 6 = .ok (.laload, 1) := by decide +kernel
theorem dX8_meets_7 : decode cX8_meets 7 = .ok (.ldc2_w 27, 3) := by decide +kernel
theorem dX8_meets_10 : decode cX8_meets 10 = .ok (.land, 1) := by decide +kernel
theorem dX8_meets_11 : decode cX8_meets 11 = .ok (.lconst 0, 1) := by decide +kernel
theorem dX8_meets_12 : decode cX8_meets 12 = .ok (.lcmp, 1) := by decide +kernel
theorem dX8_meets_13 : decode cX8_meets 13 = .ok (.ifCond .eq 7, 3) := by decide +kernel
theorem dX8_meets_16 : decode cX8_meets 16 = .ok (.iconst 1, 1) := by decide +kernel
theorem dX8_meets_17 : decode cX8_meets 17 = .ok (.goto 4, 3) := by decide +kernel
theorem dX8_meets_20 : decode cX8_meets 20 = .ok (.iconst 0, 1) := by decide +kernel
theorem dX8_meets_21 : decode cX8_meets 21 = .ok (.istore_n 2, 1) := by decide +kernel
theorem dX8_meets_22 : decode cX8_meets 22 = .ok (.aload_n 0, 1) := by decide +kernel
theorem dX8_meets_23 : decode cX8_meets 23 = .ok (.getfield 9, 3) := by decide +kernel
theorem dX8_meets_26 : decode cX8_meets 26 = .ok (.bipush 42, 2) := by decide +kernel
theorem dX8_meets_28 : decode cX8_meets 28 = .ok (.laload, 1) := by decide +kernel
theorem dX8_meets_29 : decode cX8_meets 29 = .ok (.ldc2_w 29, 3) := by decide +kernel
theorem dX8_meets_32 : decode cX8_meets 32 = .ok (.land, 1) := by decide +kernel
theorem dX8_meets_33 : decode cX8_meets 33 = .ok (.lconst 0, 1) := by decide +kernel
theorem dX8_meets_34 : decode cX8_meets 34 = .ok (.lcmp, 1) := by decide +kernel
theorem dX8_meets_35 : decode cX8_meets 35 = .ok (.ifCond .eq 7, 3) := by decide +kernel
theorem dX8_meets_38 : decode cX8_meets 38 = .ok (.iconst 1, 1) := by decide +kernel
theorem dX8_meets_39 : decode cX8_meets 39 = .ok (.goto 4, 3) := by decide +kernel
theorem dX8_meets_42 : decode cX8_meets 42 = .ok (.iconst 0, 1) := by decide +kernel
theorem dX8_meets_43 : decode cX8_meets 43 = .ok (.istore_n 3, 1) := by decide +kernel
theorem dX8_meets_44 : decode cX8_meets 44 = .ok (.aload_n 0, 1) := by decide +kernel
theorem dX8_meets_45 : decode cX8_meets 45 = .ok (.getfield 9, 3) := by decide +kernel
theorem dX8_meets_48 : decode cX8_meets 48 = .ok (.bipush 42, 2) := by decide +kernel
theorem dX8_meets_50 : decode cX8_meets 50 = .ok (.laload, 1) := by decide +kernel
theorem dX8_meets_51 : decode cX8_meets 51 = .ok (.ldc2_w 31, 3) := by decide +kernel
theorem dX8_meets_54 : decode cX8_meets 54 = .ok (.land, 1) := by decide +kernel
theorem dX8_meets_55 : decode cX8_meets 55 = .ok (.lconst 0, 1) := by decide +kernel
theorem dX8_meets_56 : decode cX8_meets 56 = .ok (.lcmp, 1) := by decide +kernel
theorem dX8_meets_57 : decode cX8_meets 57 = .ok (.ifCond .eq 7, 3) := by decide +kernel
theorem dX8_meets_60 : decode cX8_meets 60 = .ok (.iconst 1, 1) := by decide +kernel
theorem dX8_meets_61 : decode cX8_meets 61 = .ok (.goto 4, 3) := by decide +kernel
theorem dX8_meets_64 : decode cX8_meets 64 = .ok (.iconst 0, 1) := by decide +kernel
theorem dX8_meets_65 : decode cX8_meets 65 = .ok (.istore 4, 2) := by decide +kernel
theorem dX8_meets_67 : decode cX8_meets 67 = .ok (.aload_n 0, 1) := by decide +kernel
theorem dX8_meets_68 : decode cX8_meets 68 = .ok (.getfield 9, 3) := by decide +kernel
theorem dX8_meets_71 : decode cX8_meets 71 = .ok (.bipush 42, 2) := by decide +kernel
theorem dX8_meets_73 : decode cX8_meets 73 = .ok (.laload, 1) := by decide +kernel
theorem dX8_meets_74 : decode cX8_meets 74 = .ok (.lconst 1, 1) := by decide +kernel
theorem dX8_meets_75 : decode cX8_meets 75 = .ok (.land, 1) := by decide +kernel
theorem dX8_meets_76 : decode cX8_meets 76 = .ok (.lconst 0, 1) := by decide +kernel
theorem dX8_meets_77 : decode cX8_meets 77 = .ok (.lcmp, 1) := by decide +kernel
theorem dX8_meets_78 : decode cX8_meets 78 = .ok (.ifCond .eq 7, 3) := by decide +kernel
theorem dX8_meets_81 : decode cX8_meets 81 = .ok (.iconst 1, 1) := by decide +kernel
theorem dX8_meets_82 : decode cX8_meets 82 = .ok (.goto 4, 3) := by decide +kernel
theorem dX8_meets_85 : decode cX8_meets 85 = .ok (.iconst 0, 1) := by decide +kernel
theorem dX8_meets_86 : decode cX8_meets 86 = .ok (.istore 5, 2) := by decide +kernel
theorem dX8_meets_88 : decode cX8_meets 88 = .ok (.iload_n 1, 1) := by decide +kernel
theorem dX8_meets_89 : decode cX8_meets 89 = .ok (.iconst 1, 1) := by decide +kernel
theorem dX8_meets_90 : decode cX8_meets 90 = .ok (.iand, 1) := by decide +kernel
theorem dX8_meets_91 : decode cX8_meets 91 = .ok (.ifCond .eq 7, 3) := by decide +kernel
theorem dX8_meets_94 : decode cX8_meets 94 = .ok (.iconst 1, 1) := by decide +kernel
theorem dX8_meets_95 : decode cX8_meets 95 = .ok (.goto 4, 3) := by decide +kernel
theorem dX8_meets_98 : decode cX8_meets 98 = .ok (.iconst 0, 1) := by decide +kernel
theorem dX8_meets_99 : decode cX8_meets 99 = .ok (.istore 6, 2) := by decide +kernel
theorem dX8_meets_101 : decode cX8_meets 101 = .ok (.iload_n 1, 1) := by decide +kernel
theorem dX8_meets_102 : decode cX8_meets 102 = .ok (.iconst 1, 1) := by decide +kernel
theorem dX8_meets_103 : decode cX8_meets 103 = .ok (.iushr, 1) := by decide +kernel
theorem dX8_meets_104 : decode cX8_meets 104 = .ok (.tableswitch 167 0 6 #[44, 56, 69, 81, 94, 119, 141], 44) := by decide +kernel
theorem dX8_meets_148 : decode cX8_meets 148 = .ok (.iload_n 3, 1) := by decide +kernel
theorem dX8_meets_149 : decode cX8_meets 149 = .ok (.iload 6, 2) := by decide +kernel
theorem dX8_meets_151 : decode cX8_meets 151 = .ok (.if_icmp .eq 7, 3) := by decide +kernel
theorem dX8_meets_154 : decode cX8_meets 154 = .ok (.iconst 1, 1) := by decide +kernel
theorem dX8_meets_155 : decode cX8_meets 155 = .ok (.goto 4, 3) := by decide +kernel
theorem dX8_meets_158 : decode cX8_meets 158 = .ok (.iconst 0, 1) := by decide +kernel
theorem dX8_meets_159 : decode cX8_meets 159 = .ok (.ireturn, 1) := by decide +kernel
theorem dX8_meets_160 : decode cX8_meets 160 = .ok (.iload 4, 2) := by decide +kernel
theorem dX8_meets_162 : decode cX8_meets 162 = .ok (.iload 6, 2) := by decide +kernel
theorem dX8_meets_164 : decode cX8_meets 164 = .ok (.if_icmp .eq 7, 3) := by decide +kernel
theorem dX8_meets_167 : decode cX8_meets 167 = .ok (.iconst 1, 1) := by decide +kernel
theorem dX8_meets_168 : decode cX8_meets 168 = .ok (.goto 4, 3) := by decide +kernel
theorem dX8_meets_171 : decode cX8_meets 171 = .ok (.iconst 0, 1) := by decide +kernel
theorem dX8_meets_172 : decode cX8_meets 172 = .ok (.ireturn, 1) := by decide +kernel
theorem dX8_meets_173 : decode cX8_meets 173 = .ok (.iload_n 2, 1) := by decide +kernel
theorem dX8_meets_174 : decode cX8_meets 174 = .ok (.iload 6, 2) := by decide +kernel
theorem dX8_meets_176 : decode cX8_meets 176 = .ok (.if_icmp .eq 7, 3) := by decide +kernel
theorem dX8_meets_179 : decode cX8_meets 179 = .ok (.iconst 1, 1) := by decide +kernel
theorem dX8_meets_180 : decode cX8_meets 180 = .ok (.goto 4, 3) := by decide +kernel
theorem dX8_meets_183 : decode cX8_meets 183 = .ok (.iconst 0, 1) := by decide +kernel
theorem dX8_meets_184 : decode cX8_meets 184 = .ok (.ireturn, 1) := by decide +kernel
theorem dX8_meets_185 : decode cX8_meets 185 = .ok (.iload 5, 2) := by decide +kernel
theorem dX8_meets_187 : decode cX8_meets 187 = .ok (.iload 6, 2) := by decide +kernel
theorem dX8_meets_189 : decode cX8_meets 189 = .ok (.if_icmp .eq 7, 3) := by decide +kernel
theorem dX8_meets_192 : decode cX8_meets 192 = .ok (.iconst 1, 1) := by decide +kernel
theorem dX8_meets_193 : decode cX8_meets 193 = .ok (.goto 4, 3) := by decide +kernel
theorem dX8_meets_196 : decode cX8_meets 196 = .ok (.iconst 0, 1) := by decide +kernel
theorem dX8_meets_197 : decode cX8_meets 197 = .ok (.ireturn, 1) := by decide +kernel
theorem dX8_meets_198 : decode cX8_meets 198 = .ok (.iload 4, 2) := by decide +kernel
theorem dX8_meets_200 : decode cX8_meets 200 = .ok (.ifCond .eq 11, 3) := by decide +kernel
theorem dX8_meets_203 : decode cX8_meets 203 = .ok (.iload_n 3, 1) := by decide +kernel
theorem dX8_meets_204 : decode cX8_meets 204 = .ok (.ifCond .ne 7, 3) := by decide +kernel
theorem dX8_meets_207 : decode cX8_meets 207 = .ok (.iconst 1, 1) := by decide +kernel
theorem dX8_meets_208 : decode cX8_meets 208 = .ok (.goto 4, 3) := by decide +kernel
theorem dX8_meets_211 : decode cX8_meets 211 = .ok (.iconst 0, 1) := by decide +kernel
theorem dX8_meets_212 : decode cX8_meets 212 = .ok (.iload 6, 2) := by decide +kernel
theorem dX8_meets_214 : decode cX8_meets 214 = .ok (.if_icmp .eq 7, 3) := by decide +kernel
theorem dX8_meets_217 : decode cX8_meets 217 = .ok (.iconst 1, 1) := by decide +kernel
theorem dX8_meets_218 : decode cX8_meets 218 = .ok (.goto 4, 3) := by decide +kernel
theorem dX8_meets_221 : decode cX8_meets 221 = .ok (.iconst 0, 1) := by decide +kernel
theorem dX8_meets_222 : decode cX8_meets 222 = .ok (.ireturn, 1) := by decide +kernel
theorem dX8_meets_223 : decode cX8_meets 223 = .ok (.iload_n 2, 1) := by decide +kernel
theorem dX8_meets_224 : decode cX8_meets 224 = .ok (.iload 5, 2) := by decide +kernel
theorem dX8_meets_226 : decode cX8_meets 226 = .ok (.if_icmp .ne 7, 3) := by decide +kernel
theorem dX8_meets_229 : decode cX8_meets 229 = .ok (.iconst 1, 1) := by decide +kernel
theorem dX8_meets_230 : decode cX8_meets 230 = .ok (.goto 4, 3) := by decide +kernel
theorem dX8_meets_233 : decode cX8_meets 233 = .ok (.iconst 0, 1) := by decide +kernel
theorem dX8_meets_234 : decode cX8_meets 234 = .ok (.iload 6, 2) := by decide +kernel
theorem dX8_meets_236 : decode cX8_meets 236 = .ok (.if_icmp .eq 7, 3) := by decide +kernel
theorem dX8_meets_239 : decode cX8_meets 239 = .ok (.iconst 1, 1) := by decide +kernel
theorem dX8_meets_240 : decode cX8_meets 240 = .ok (.goto 4, 3) := by decide +kernel
theorem dX8_meets_243 : decode cX8_meets 243 = .ok (.iconst 0, 1) := by decide +kernel
theorem dX8_meets_244 : decode cX8_meets 244 = .ok (.ireturn, 1) := by decide +kernel
theorem dX8_meets_245 : decode cX8_meets 245 = .ok (.iload_n 2, 1) := by decide +kernel
theorem dX8_meets_246 : decode cX8_meets 246 = .ok (.iload 5, 2) := by decide +kernel
theorem dX8_meets_248 : decode cX8_meets 248 = .ok (.if_icmp .ne 11, 3) := by decide +kernel
theorem dX8_meets_251 : decode cX8_meets 251 = .ok (.iload_n 3, 1) := by decide +kernel
theorem dX8_meets_252 : decode cX8_meets 252 = .ok (.ifCond .ne 7, 3) := by decide +kernel
theorem dX8_meets_255 : decode cX8_meets 255 = .ok (.iconst 1, 1) := by decide +kernel
theorem dX8_meets_256 : decode cX8_meets 256 = .ok (.goto 4, 3) := by decide +kernel
theorem dX8_meets_259 : decode cX8_meets 259 = .ok (.iconst 0, 1) := by decide +kernel
theorem dX8_meets_260 : decode cX8_meets 260 = .ok (.iload 6, 2) := by decide +kernel
theorem dX8_meets_262 : decode cX8_meets 262 = .ok (.if_icmp .eq 7, 3) := by decide +kernel
theorem dX8_meets_265 : decode cX8_meets 265 = .ok (.iconst 1, 1) := by decide +kernel
theorem dX8_meets_266 : decode cX8_meets 266 = .ok (.goto 4, 3) := by decide +kernel
theorem dX8_meets_269 : decode cX8_meets 269 = .ok (.iconst 0, 1) := by decide +kernel
theorem dX8_meets_270 : decode cX8_meets 270 = .ok (.ireturn, 1) := by decide +kernel
theorem dX8_meets_271 : decode cX8_meets 271 = .ok (.iconst 1, 1) := by decide +kernel
theorem dX8_meets_272 : decode cX8_meets 272 = .ok (.ireturn, 1) := by decide +kernel
def F_X8_meets_c212 (σ : XS) (a0 : Int32) (w6 : Bool) (s0 : Bool) : Bool := (if s0 = w6 then false else true)
def F_X8_meets_c211 (σ : XS) (a0 : Int32) (w6 : Bool) : Bool := (F_X8_meets_c212 σ a0 w6 false)
def F_X8_meets_c234 (σ : XS) (a0 : Int32) (w6 : Bool) (s0 : Bool) : Bool := (if s0 = w6 then false else true)
def F_X8_meets_c260 (σ : XS) (a0 : Int32) (w6 : Bool) (s0 : Bool) : Bool := (if s0 = w6 then false else true)
def F_X8_meets_c259 (σ : XS) (a0 : Int32) (w6 : Bool) : Bool := (F_X8_meets_c260 σ a0 w6 false)
def F_X8_meets_c99 (σ : XS) (a0 : Int32) (w2 : Bool) (w3 : Bool) (w4 : Bool) (w5 : Bool) (s0 : Bool) : Bool := (if (j_iushr a0 (1 : Int32)) = 0 then (if w3 = s0 then false else true) else (if (j_iushr a0 (1 : Int32)) = 1 then (if w4 = s0 then false else true) else (if (j_iushr a0 (1 : Int32)) = 2 then (if w2 = s0 then false else true) else (if (j_iushr a0 (1 : Int32)) = 3 then (if w5 = s0 then false else true) else (if (j_iushr a0 (1 : Int32)) = 4 then (if w4 = true then (if w3 = true then (F_X8_meets_c211 σ a0 s0) else (F_X8_meets_c212 σ a0 s0 true)) else (F_X8_meets_c211 σ a0 s0)) else (if (j_iushr a0 (1 : Int32)) = 5 then (if w2 = w5 then (F_X8_meets_c234 σ a0 s0 true) else (F_X8_meets_c234 σ a0 s0 false)) else (if (j_iushr a0 (1 : Int32)) = 6 then (if w2 = w5 then (if w3 = true then (F_X8_meets_c259 σ a0 s0) else (F_X8_meets_c260 σ a0 s0 true)) else (F_X8_meets_c259 σ a0 s0)) else true)))))))
def F_X8_meets_c86 (σ : XS) (a0 : Int32) (w2 : Bool) (w3 : Bool) (w4 : Bool) (s0 : Bool) : Bool := (if (a0 &&& (1 : Int32)) = 0 then (F_X8_meets_c99 σ a0 w2 w3 w4 s0 false) else (F_X8_meets_c99 σ a0 w2 w3 w4 s0 true))
def F_X8_meets_c65 (σ : XS) (a0 : Int32) (w2 : Bool) (w3 : Bool) (s0 : Bool) : Bool := (if ((xP σ (42 : Int32).toNatClampNeg) &&& (1 : Int64)) = (0 : Int64) then (F_X8_meets_c86 σ a0 w2 w3 s0 false) else (F_X8_meets_c86 σ a0 w2 w3 s0 true))
def F_X8_meets_c43 (σ : XS) (a0 : Int32) (w2 : Bool) (s0 : Bool) : Bool := (if ((xP σ (42 : Int32).toNatClampNeg) &&& (2 : Int64)) = (0 : Int64) then (F_X8_meets_c65 σ a0 w2 s0 false) else (F_X8_meets_c65 σ a0 w2 s0 true))
def F_X8_meets_c21 (σ : XS) (a0 : Int32) (s0 : Bool) : Bool := (if ((xP σ (42 : Int32).toNatClampNeg) &&& (4 : Int64)) = (0 : Int64) then (F_X8_meets_c43 σ a0 s0 false) else (F_X8_meets_c43 σ a0 s0 true))
def F_X8_meets (σ : XS) (a0 : Int32) : Bool := (if ((xP σ (42 : Int32).toNatClampNeg) &&& (8 : Int64)) = (0 : Int64) then (F_X8_meets_c21 σ a0 false) else (F_X8_meets_c21 σ a0 true))
set_option maxHeartbeats 4000000 in
set_option maxRecDepth 100000 in
theorem c_X8_meets (l : Launch) (z : Cx) (r : Nat → Nat) (σ : XS) (a0 : Int32) (res : Bool) (hf : F_X8_meets σ a0 = res) : Met l yX8_meets (wsC yX8_meets cX8_meets 7 (some .boolean)) { frames := 0, cells := 0, slots := 0, locals := 0 } (rPc z (xW z r σ) [.ref (r 3), .int a0]) (gS (some (.int (zB res)))) 0 0 (fun _ => False) := by
  refine mk_r_z (own := RX8) (by decide) rfl _ (Nat.le_of_ble_eq_true rfl) (fun p e s m below meth c H locs Q ls S hK hP hl hend => ?_)
  have hx := S.1
  have hb := S.2.1
  have hown := S.2.2.2.1
  have hts := S.2.2.2.2
  have hl : lv_has ls 7 [(0, .ref (r 3)), (1, .int a0)] := hl
  have J_c212 : ∀ (w6 : Bool) (s0 : Bool) (ls : Array Slot), F_X8_meets_c212 σ a0 w6 s0 = res → lv_has ls 7 [(6, .int (zB w6))] → W p l e { frames := 0, cells := 0, slots := 0, locals := 0 } s m ([.ref (r 3), .int a0] : List Value).toArray below meth c H locs 0 0 Q (F0 m 212 ls [.int (zB s0)]) := by
    intro w6 s0 ls hf hl
    unfold F_X8_meets_c212 at hf
    refine lv_iload hx hb dX8_meets_212 (lv_at hl 0 rfl) ?_
    refine gz_ceq (tgt := 221) hx hb dX8_meets_214 (by decide) (fun c_214 => ?_) (fun c_214 => ?_)
    · rw [if_pos c_214] at hf
      refine lv_iconst (v := 0) hx hb dX8_meets_221 (by decide) ?_
      exact hend false 222 ls hf dX8_meets_222
    · rw [if_neg c_214] at hf
      refine lv_iconst (v := 1) hx hb dX8_meets_217 (by decide) ?_
      refine lv_goto (tgt := 222) hx hb dX8_meets_218 (by decide) ?_
      exact hend true 222 ls hf dX8_meets_222
  have J_c211 : ∀ (w6 : Bool) (ls : Array Slot), F_X8_meets_c211 σ a0 w6 = res → lv_has ls 7 [(6, .int (zB w6))] → W p l e { frames := 0, cells := 0, slots := 0, locals := 0 } s m ([.ref (r 3), .int a0] : List Value).toArray below meth c H locs 0 0 Q (F0 m 211 ls []) := by
    intro w6 ls hf hl
    unfold F_X8_meets_c211 at hf
    refine lv_iconst (v := 0) hx hb dX8_meets_211 (by decide) ?_
    exact J_c212 w6 false ls hf (lv_sub hl [0] rfl)
  have J_c234 : ∀ (w6 : Bool) (s0 : Bool) (ls : Array Slot), F_X8_meets_c234 σ a0 w6 s0 = res → lv_has ls 7 [(6, .int (zB w6))] → W p l e { frames := 0, cells := 0, slots := 0, locals := 0 } s m ([.ref (r 3), .int a0] : List Value).toArray below meth c H locs 0 0 Q (F0 m 234 ls [.int (zB s0)]) := by
    intro w6 s0 ls hf hl
    unfold F_X8_meets_c234 at hf
    refine lv_iload hx hb dX8_meets_234 (lv_at hl 0 rfl) ?_
    refine gz_ceq (tgt := 243) hx hb dX8_meets_236 (by decide) (fun c_236 => ?_) (fun c_236 => ?_)
    · rw [if_pos c_236] at hf
      refine lv_iconst (v := 0) hx hb dX8_meets_243 (by decide) ?_
      exact hend false 244 ls hf dX8_meets_244
    · rw [if_neg c_236] at hf
      refine lv_iconst (v := 1) hx hb dX8_meets_239 (by decide) ?_
      refine lv_goto (tgt := 244) hx hb dX8_meets_240 (by decide) ?_
      exact hend true 244 ls hf dX8_meets_244
  have J_c260 : ∀ (w6 : Bool) (s0 : Bool) (ls : Array Slot), F_X8_meets_c260 σ a0 w6 s0 = res → lv_has ls 7 [(6, .int (zB w6))] → W p l e { frames := 0, cells := 0, slots := 0, locals := 0 } s m ([.ref (r 3), .int a0] : List Value).toArray below meth c H locs 0 0 Q (F0 m 260 ls [.int (zB s0)]) := by
    intro w6 s0 ls hf hl
    unfold F_X8_meets_c260 at hf
    refine lv_iload hx hb dX8_meets_260 (lv_at hl 0 rfl) ?_
    refine gz_ceq (tgt := 269) hx hb dX8_meets_262 (by decide) (fun c_262 => ?_) (fun c_262 => ?_)
    · rw [if_pos c_262] at hf
      refine lv_iconst (v := 0) hx hb dX8_meets_269 (by decide) ?_
      exact hend false 270 ls hf dX8_meets_270
    · rw [if_neg c_262] at hf
      refine lv_iconst (v := 1) hx hb dX8_meets_265 (by decide) ?_
      refine lv_goto (tgt := 270) hx hb dX8_meets_266 (by decide) ?_
      exact hend true 270 ls hf dX8_meets_270
  have J_c259 : ∀ (w6 : Bool) (ls : Array Slot), F_X8_meets_c259 σ a0 w6 = res → lv_has ls 7 [(6, .int (zB w6))] → W p l e { frames := 0, cells := 0, slots := 0, locals := 0 } s m ([.ref (r 3), .int a0] : List Value).toArray below meth c H locs 0 0 Q (F0 m 259 ls []) := by
    intro w6 ls hf hl
    unfold F_X8_meets_c259 at hf
    refine lv_iconst (v := 0) hx hb dX8_meets_259 (by decide) ?_
    exact J_c260 w6 false ls hf (lv_sub hl [0] rfl)
  have J_c99 : ∀ (w2 : Bool) (w3 : Bool) (w4 : Bool) (w5 : Bool) (s0 : Bool) (ls : Array Slot), F_X8_meets_c99 σ a0 w2 w3 w4 w5 s0 = res → lv_has ls 7 [(1, .int a0), (2, .int (zB w2)), (3, .int (zB w3)), (4, .int (zB w4)), (5, .int (zB w5))] → W p l e { frames := 0, cells := 0, slots := 0, locals := 0 } s m ([.ref (r 3), .int a0] : List Value).toArray below meth c H locs 0 0 Q (F0 m 99 ls [.int (zB s0)]) := by
    intro w2 w3 w4 w5 s0 ls hf hl
    unfold F_X8_meets_c99 at hf
    refine lv_istore (lv' := [(6, .int (zB s0)), (1, .int a0), (2, .int (zB w2)), (3, .int (zB w3)), (4, .int (zB w4)), (5, .int (zB w5))]) hx hb dX8_meets_99 hl (by decide) rfl (fun ls hl => ?_)
    refine lv_iload_n hx hb dX8_meets_101 rfl (lv_at hl 1 rfl) ?_
    refine lv_iconst (v := 1) hx hb dX8_meets_102 (by decide) ?_
    refine lv_iushr (v := (j_iushr a0 (1 : Int32))) hx hb dX8_meets_103 rfl ?_
    by_cases c_104_0 : (j_iushr a0 (1 : Int32)) = 0
    · rw [if_pos c_104_0] at hf
      refine gt_in (k := 0) (tgt := 148) hx hb dX8_meets_104 c_104_0 (by decide) (by decide) rfl (by decide) ?_
      refine lv_iload_n hx hb dX8_meets_148 rfl (lv_at hl 3 rfl) ?_
      refine lv_iload hx hb dX8_meets_149 (lv_at hl 0 rfl) ?_
      refine gz_ceq (tgt := 158) hx hb dX8_meets_151 (by decide) (fun c_151 => ?_) (fun c_151 => ?_)
      · rw [if_pos c_151] at hf
        refine lv_iconst (v := 0) hx hb dX8_meets_158 (by decide) ?_
        exact hend false 159 ls hf dX8_meets_159
      · rw [if_neg c_151] at hf
        refine lv_iconst (v := 1) hx hb dX8_meets_154 (by decide) ?_
        refine lv_goto (tgt := 159) hx hb dX8_meets_155 (by decide) ?_
        exact hend true 159 ls hf dX8_meets_159
    rw [if_neg c_104_0] at hf
    by_cases c_104_1 : (j_iushr a0 (1 : Int32)) = 1
    · rw [if_pos c_104_1] at hf
      refine gt_in (k := 1) (tgt := 160) hx hb dX8_meets_104 c_104_1 (by decide) (by decide) rfl (by decide) ?_
      refine lv_iload hx hb dX8_meets_160 (lv_at hl 4 rfl) ?_
      refine lv_iload hx hb dX8_meets_162 (lv_at hl 0 rfl) ?_
      refine gz_ceq (tgt := 171) hx hb dX8_meets_164 (by decide) (fun c_164 => ?_) (fun c_164 => ?_)
      · rw [if_pos c_164] at hf
        refine lv_iconst (v := 0) hx hb dX8_meets_171 (by decide) ?_
        exact hend false 172 ls hf dX8_meets_172
      · rw [if_neg c_164] at hf
        refine lv_iconst (v := 1) hx hb dX8_meets_167 (by decide) ?_
        refine lv_goto (tgt := 172) hx hb dX8_meets_168 (by decide) ?_
        exact hend true 172 ls hf dX8_meets_172
    rw [if_neg c_104_1] at hf
    by_cases c_104_2 : (j_iushr a0 (1 : Int32)) = 2
    · rw [if_pos c_104_2] at hf
      refine gt_in (k := 2) (tgt := 173) hx hb dX8_meets_104 c_104_2 (by decide) (by decide) rfl (by decide) ?_
      refine lv_iload_n hx hb dX8_meets_173 rfl (lv_at hl 2 rfl) ?_
      refine lv_iload hx hb dX8_meets_174 (lv_at hl 0 rfl) ?_
      refine gz_ceq (tgt := 183) hx hb dX8_meets_176 (by decide) (fun c_176 => ?_) (fun c_176 => ?_)
      · rw [if_pos c_176] at hf
        refine lv_iconst (v := 0) hx hb dX8_meets_183 (by decide) ?_
        exact hend false 184 ls hf dX8_meets_184
      · rw [if_neg c_176] at hf
        refine lv_iconst (v := 1) hx hb dX8_meets_179 (by decide) ?_
        refine lv_goto (tgt := 184) hx hb dX8_meets_180 (by decide) ?_
        exact hend true 184 ls hf dX8_meets_184
    rw [if_neg c_104_2] at hf
    by_cases c_104_3 : (j_iushr a0 (1 : Int32)) = 3
    · rw [if_pos c_104_3] at hf
      refine gt_in (k := 3) (tgt := 185) hx hb dX8_meets_104 c_104_3 (by decide) (by decide) rfl (by decide) ?_
      refine lv_iload hx hb dX8_meets_185 (lv_at hl 5 rfl) ?_
      refine lv_iload hx hb dX8_meets_187 (lv_at hl 0 rfl) ?_
      refine gz_ceq (tgt := 196) hx hb dX8_meets_189 (by decide) (fun c_189 => ?_) (fun c_189 => ?_)
      · rw [if_pos c_189] at hf
        refine lv_iconst (v := 0) hx hb dX8_meets_196 (by decide) ?_
        exact hend false 197 ls hf dX8_meets_197
      · rw [if_neg c_189] at hf
        refine lv_iconst (v := 1) hx hb dX8_meets_192 (by decide) ?_
        refine lv_goto (tgt := 197) hx hb dX8_meets_193 (by decide) ?_
        exact hend true 197 ls hf dX8_meets_197
    rw [if_neg c_104_3] at hf
    by_cases c_104_4 : (j_iushr a0 (1 : Int32)) = 4
    · rw [if_pos c_104_4] at hf
      refine gt_in (k := 4) (tgt := 198) hx hb dX8_meets_104 c_104_4 (by decide) (by decide) rfl (by decide) ?_
      refine lv_iload hx hb dX8_meets_198 (lv_at hl 4 rfl) ?_
      refine gz_eq (tgt := 211) hx hb dX8_meets_200 (by decide) (fun c_200 => ?_) (fun c_200 => ?_)
      · rw [if_neg c_200] at hf
        exact J_c211 s0 ls hf (lv_sub hl [0] rfl)
      · rw [if_pos c_200] at hf
        refine lv_iload_n hx hb dX8_meets_203 rfl (lv_at hl 3 rfl) ?_
        refine gz_ne (tgt := 211) hx hb dX8_meets_204 (by decide) (fun c_204 => ?_) (fun c_204 => ?_)
        · rw [if_pos c_204] at hf
          exact J_c211 s0 ls hf (lv_sub hl [0] rfl)
        · rw [if_neg c_204] at hf
          refine lv_iconst (v := 1) hx hb dX8_meets_207 (by decide) ?_
          refine lv_goto (tgt := 212) hx hb dX8_meets_208 (by decide) ?_
          exact J_c212 s0 true ls hf (lv_sub hl [0] rfl)
    rw [if_neg c_104_4] at hf
    by_cases c_104_5 : (j_iushr a0 (1 : Int32)) = 5
    · rw [if_pos c_104_5] at hf
      refine gt_in (k := 5) (tgt := 223) hx hb dX8_meets_104 c_104_5 (by decide) (by decide) rfl (by decide) ?_
      refine lv_iload_n hx hb dX8_meets_223 rfl (lv_at hl 2 rfl) ?_
      refine lv_iload hx hb dX8_meets_224 (lv_at hl 5 rfl) ?_
      refine gz_cne (tgt := 233) hx hb dX8_meets_226 (by decide) (fun c_226 => ?_) (fun c_226 => ?_)
      · rw [if_neg c_226] at hf
        refine lv_iconst (v := 0) hx hb dX8_meets_233 (by decide) ?_
        exact J_c234 s0 false ls hf (lv_sub hl [0] rfl)
      · rw [if_pos c_226] at hf
        refine lv_iconst (v := 1) hx hb dX8_meets_229 (by decide) ?_
        refine lv_goto (tgt := 234) hx hb dX8_meets_230 (by decide) ?_
        exact J_c234 s0 true ls hf (lv_sub hl [0] rfl)
    rw [if_neg c_104_5] at hf
    by_cases c_104_6 : (j_iushr a0 (1 : Int32)) = 6
    · rw [if_pos c_104_6] at hf
      refine gt_in (k := 6) (tgt := 245) hx hb dX8_meets_104 c_104_6 (by decide) (by decide) rfl (by decide) ?_
      refine lv_iload_n hx hb dX8_meets_245 rfl (lv_at hl 2 rfl) ?_
      refine lv_iload hx hb dX8_meets_246 (lv_at hl 5 rfl) ?_
      refine gz_cne (tgt := 259) hx hb dX8_meets_248 (by decide) (fun c_248 => ?_) (fun c_248 => ?_)
      · rw [if_neg c_248] at hf
        exact J_c259 s0 ls hf (lv_sub hl [0] rfl)
      · rw [if_pos c_248] at hf
        refine lv_iload_n hx hb dX8_meets_251 rfl (lv_at hl 3 rfl) ?_
        refine gz_ne (tgt := 259) hx hb dX8_meets_252 (by decide) (fun c_252 => ?_) (fun c_252 => ?_)
        · rw [if_pos c_252] at hf
          exact J_c259 s0 ls hf (lv_sub hl [0] rfl)
        · rw [if_neg c_252] at hf
          refine lv_iconst (v := 1) hx hb dX8_meets_255 (by decide) ?_
          refine lv_goto (tgt := 260) hx hb dX8_meets_256 (by decide) ?_
          exact J_c260 s0 true ls hf (lv_sub hl [0] rfl)
    rw [if_neg c_104_6] at hf
    refine lv_tableOut (tgt := 271) hx hb dX8_meets_104 (by have q0 := lv_neT c_104_0 (show ((0 : Int32)).toInt = 0 from rfl); have q1 := lv_neT c_104_1 (show ((1 : Int32)).toInt = 1 from rfl); have q2 := lv_neT c_104_2 (show ((2 : Int32)).toInt = 2 from rfl); have q3 := lv_neT c_104_3 (show ((3 : Int32)).toInt = 3 from rfl); have q4 := lv_neT c_104_4 (show ((4 : Int32)).toInt = 4 from rfl); have q5 := lv_neT c_104_5 (show ((5 : Int32)).toInt = 5 from rfl); have q6 := lv_neT c_104_6 (show ((6 : Int32)).toInt = 6 from rfl); omega) (by decide) ?_
    refine lv_iconst (v := 1) hx hb dX8_meets_271 (by decide) ?_
    exact hend true 272 ls hf dX8_meets_272
  have J_c86 : ∀ (w2 : Bool) (w3 : Bool) (w4 : Bool) (s0 : Bool) (ls : Array Slot), F_X8_meets_c86 σ a0 w2 w3 w4 s0 = res → lv_has ls 7 [(1, .int a0), (2, .int (zB w2)), (3, .int (zB w3)), (4, .int (zB w4))] → W p l e { frames := 0, cells := 0, slots := 0, locals := 0 } s m ([.ref (r 3), .int a0] : List Value).toArray below meth c H locs 0 0 Q (F0 m 86 ls [.int (zB s0)]) := by
    intro w2 w3 w4 s0 ls hf hl
    unfold F_X8_meets_c86 at hf
    refine lv_istore (lv' := [(5, .int (zB s0)), (1, .int a0), (2, .int (zB w2)), (3, .int (zB w3)), (4, .int (zB w4))]) hx hb dX8_meets_86 hl (by decide) rfl (fun ls hl => ?_)
    refine lv_iload_n hx hb dX8_meets_88 rfl (lv_at hl 1 rfl) ?_
    refine lv_iconst (v := 1) hx hb dX8_meets_89 (by decide) ?_
    refine lv_iand hx hb dX8_meets_90 ?_
    refine lv_if_eq (tgt := 98) hx hb dX8_meets_91 (by decide) (fun c_91 => ?_) (fun c_91 => ?_)
    · rw [if_pos c_91] at hf
      refine lv_iconst (v := 0) hx hb dX8_meets_98 (by decide) ?_
      exact J_c99 w2 w3 w4 s0 false ls hf (lv_sub hl [1, 2, 3, 4, 0] rfl)
    · rw [if_neg c_91] at hf
      refine lv_iconst (v := 1) hx hb dX8_meets_94 (by decide) ?_
      refine lv_goto (tgt := 99) hx hb dX8_meets_95 (by decide) ?_
      exact J_c99 w2 w3 w4 s0 true ls hf (lv_sub hl [1, 2, 3, 4, 0] rfl)
  have J_c65 : ∀ (w2 : Bool) (w3 : Bool) (s0 : Bool) (ls : Array Slot), F_X8_meets_c65 σ a0 w2 w3 s0 = res → lv_has ls 7 [(0, .ref (r 3)), (1, .int a0), (2, .int (zB w2)), (3, .int (zB w3))] → W p l e { frames := 0, cells := 0, slots := 0, locals := 0 } s m ([.ref (r 3), .int a0] : List Value).toArray below meth c H locs 0 0 Q (F0 m 65 ls [.int (zB s0)]) := by
    intro w2 w3 s0 ls hf hl
    unfold F_X8_meets_c65 at hf
    refine lv_istore (lv' := [(4, .int (zB s0)), (0, .ref (r 3)), (1, .int a0), (2, .int (zB w2)), (3, .int (zB w3))]) hx hb dX8_meets_65 hl (by decide) rfl (fun ls hl => ?_)
    refine lv_aload_n hx hb dX8_meets_67 rfl (lv_at hl 1 rfl) ?_
    refine fg_X8_parts S hK hP tf_X8_9 dX8_meets_68 ?_
    refine lv_bipush (v := 42) hx hb dX8_meets_71 (by decide) ?_
    refine al_xP S hK hP (show vp_in (42 : Int32) 46 by unfold vp_in; decide) dX8_meets_73 ?_
    refine lv_lconst (v := 1) hx hb dX8_meets_74 (by decide) ?_
    refine lv_land hx hb dX8_meets_75 ?_
    refine lv_lconst (v := 0) hx hb dX8_meets_76 (by decide) ?_
    refine gl_eq (tgt := 85) hx hb dX8_meets_77 dX8_meets_78 (by decide) (fun c_77 => ?_) (fun c_77 => ?_)
    · rw [if_pos c_77] at hf
      refine lv_iconst (v := 0) hx hb dX8_meets_85 (by decide) ?_
      exact J_c86 w2 w3 s0 false ls hf (lv_sub hl [2, 3, 4, 0] rfl)
    · rw [if_neg c_77] at hf
      refine lv_iconst (v := 1) hx hb dX8_meets_81 (by decide) ?_
      refine lv_goto (tgt := 86) hx hb dX8_meets_82 (by decide) ?_
      exact J_c86 w2 w3 s0 true ls hf (lv_sub hl [2, 3, 4, 0] rfl)
  have J_c43 : ∀ (w2 : Bool) (s0 : Bool) (ls : Array Slot), F_X8_meets_c43 σ a0 w2 s0 = res → lv_has ls 7 [(0, .ref (r 3)), (1, .int a0), (2, .int (zB w2))] → W p l e { frames := 0, cells := 0, slots := 0, locals := 0 } s m ([.ref (r 3), .int a0] : List Value).toArray below meth c H locs 0 0 Q (F0 m 43 ls [.int (zB s0)]) := by
    intro w2 s0 ls hf hl
    unfold F_X8_meets_c43 at hf
    refine lv_istore_n (lv' := [(3, .int (zB s0)), (0, .ref (r 3)), (1, .int a0), (2, .int (zB w2))]) hx hb dX8_meets_43 rfl hl (by decide) rfl (fun ls hl => ?_)
    refine lv_aload_n hx hb dX8_meets_44 rfl (lv_at hl 1 rfl) ?_
    refine fg_X8_parts S hK hP tf_X8_9 dX8_meets_45 ?_
    refine lv_bipush (v := 42) hx hb dX8_meets_48 (by decide) ?_
    refine al_xP S hK hP (show vp_in (42 : Int32) 46 by unfold vp_in; decide) dX8_meets_50 ?_
    refine lv_ldc2 (v := 2) hx hb hown (hts _ tk_X8_31) dX8_meets_51 ?_
    refine lv_land hx hb dX8_meets_54 ?_
    refine lv_lconst (v := 0) hx hb dX8_meets_55 (by decide) ?_
    refine gl_eq (tgt := 64) hx hb dX8_meets_56 dX8_meets_57 (by decide) (fun c_56 => ?_) (fun c_56 => ?_)
    · rw [if_pos c_56] at hf
      refine lv_iconst (v := 0) hx hb dX8_meets_64 (by decide) ?_
      exact J_c65 w2 s0 false ls hf (lv_sub hl [1, 2, 3, 0] rfl)
    · rw [if_neg c_56] at hf
      refine lv_iconst (v := 1) hx hb dX8_meets_60 (by decide) ?_
      refine lv_goto (tgt := 65) hx hb dX8_meets_61 (by decide) ?_
      exact J_c65 w2 s0 true ls hf (lv_sub hl [1, 2, 3, 0] rfl)
  have J_c21 : ∀ (s0 : Bool) (ls : Array Slot), F_X8_meets_c21 σ a0 s0 = res → lv_has ls 7 [(0, .ref (r 3)), (1, .int a0)] → W p l e { frames := 0, cells := 0, slots := 0, locals := 0 } s m ([.ref (r 3), .int a0] : List Value).toArray below meth c H locs 0 0 Q (F0 m 21 ls [.int (zB s0)]) := by
    intro s0 ls hf hl
    unfold F_X8_meets_c21 at hf
    refine lv_istore_n (lv' := [(2, .int (zB s0)), (0, .ref (r 3)), (1, .int a0)]) hx hb dX8_meets_21 rfl hl (by decide) rfl (fun ls hl => ?_)
    refine lv_aload_n hx hb dX8_meets_22 rfl (lv_at hl 1 rfl) ?_
    refine fg_X8_parts S hK hP tf_X8_9 dX8_meets_23 ?_
    refine lv_bipush (v := 42) hx hb dX8_meets_26 (by decide) ?_
    refine al_xP S hK hP (show vp_in (42 : Int32) 46 by unfold vp_in; decide) dX8_meets_28 ?_
    refine lv_ldc2 (v := 4) hx hb hown (hts _ tk_X8_29) dX8_meets_29 ?_
    refine lv_land hx hb dX8_meets_32 ?_
    refine lv_lconst (v := 0) hx hb dX8_meets_33 (by decide) ?_
    refine gl_eq (tgt := 42) hx hb dX8_meets_34 dX8_meets_35 (by decide) (fun c_34 => ?_) (fun c_34 => ?_)
    · rw [if_pos c_34] at hf
      refine lv_iconst (v := 0) hx hb dX8_meets_42 (by decide) ?_
      exact J_c43 s0 false ls hf (lv_sub hl [1, 2, 0] rfl)
    · rw [if_neg c_34] at hf
      refine lv_iconst (v := 1) hx hb dX8_meets_38 (by decide) ?_
      refine lv_goto (tgt := 43) hx hb dX8_meets_39 (by decide) ?_
      exact J_c43 s0 true ls hf (lv_sub hl [1, 2, 0] rfl)
  unfold F_X8_meets at hf
  refine lv_aload_n hx hb dX8_meets_0 rfl (lv_at hl 0 rfl) ?_
  refine fg_X8_parts S hK hP tf_X8_9 dX8_meets_1 ?_
  refine lv_bipush (v := 42) hx hb dX8_meets_4 (by decide) ?_
  refine al_xP S hK hP (show vp_in (42 : Int32) 46 by unfold vp_in; decide) dX8_meets_6 ?_
  refine lv_ldc2 (v := 8) hx hb hown (hts _ tk_X8_27) dX8_meets_7 ?_
  refine lv_land hx hb dX8_meets_10 ?_
  refine lv_lconst (v := 0) hx hb dX8_meets_11 (by decide) ?_
  refine gl_eq (tgt := 20) hx hb dX8_meets_12 dX8_meets_13 (by decide) (fun c_12 => ?_) (fun c_12 => ?_)
  · rw [if_pos c_12] at hf
    refine lv_iconst (v := 0) hx hb dX8_meets_20 (by decide) ?_
    exact J_c21 false ls hf (lv_sub hl [0, 1] rfl)
  · rw [if_neg c_12] at hf
    refine lv_iconst (v := 1) hx hb dX8_meets_16 (by decide) ?_
    refine lv_goto (tgt := 21) hx hb dX8_meets_17 (by decide) ?_
    exact J_c21 true ls hf (lv_sub hl [0, 1] rfl)
theorem k_X8_meets {p : Program} {l : Launch} {e : Env} {R : Room} {s : State} {m : MethodId} {args : Array Value} {below : List Frame} {meth : Method} {c : Code} {H : Heap} {locs : List Loc} {Q : State → Prop} {cc : ByteArray} {pc : Nat} {ls : Array Slot} {rest : List Value} {own : String} {index nL : Nat} {z : Cx} {r : Nat → Nat} {σ : XS} {a0 : Int32} (S : CallFix p m c cc nL s args tbG own) (hK : va_K z.1 vwCl (cxT z) s) (hP : va_P z.1 vwCl (xW z r σ) H) (hl : Cond.methodLink own index yX8_meets ∈ tbG) (hR : 0 + 1 ≤ R.frames ∧ 8 + (7 + 11) + 0 ≤ R.locals) (hsz : ls.size = nL) (hcat : (rest.map fun v => v.category).sum ≤ 8) (hdg : decode cc pc = .ok (.invokevirtual index, 3)) (kk : W p l e R s m args below meth c H locs 0 0 Q (F0 m (pc + 3) ls (.int (zB (F_X8_meets σ a0)) :: rest))) : W p l e R s m args below meth c H locs 0 0 Q (F0 m pc ls (.int a0 :: .ref (r 3) :: rest)) :=
  kr (As := [.int a0]) (ov := some (.int (zB (F_X8_meets σ a0)))) (q0 := 3) (ci := 7) S hK hP (c_X8_meets l z r σ a0 _ rfl) ⟨tb_cB 1 S.2.2.2.2 tc_X8_meets ti_X8 hl rfl rfl (by decide +kernel) hR, S.2.2.2.2 _ tm_X8_meets, S.2.2.2.2 _ te_X8_meets⟩ rfl rfl rfl rfl hsz rfl hcat hdg kk

theorem dX2_when_0 : decode cX2_when 0 = .ok (.iload_n 1, 1) := by decide +kernel
theorem dX2_when_1 : decode cX2_when 1 = .ok (.iconst 4, 1) := by decide +kernel
theorem dX2_when_2 : decode cX2_when 2 = .ok (.invokestatic 35, 3) := by decide +kernel
theorem dX2_when_5 : decode cX2_when 5 = .ok (.ifCond .eq 5, 3) := by decide +kernel
theorem dX2_when_8 : decode cX2_when 8 = .ok (.iconst 0, 1) := by decide +kernel
theorem dX2_when_9 : decode cX2_when 9 = .ok (.ireturn, 1) := by decide +kernel
theorem dX2_when_10 : decode cX2_when 10 = .ok (.aload_n 0, 1) := by decide +kernel
theorem dX2_when_11 : decode cX2_when 11 = .ok (.aload_n 0, 1) := by decide +kernel
theorem dX2_when_12 : decode cX2_when 12 = .ok (.getfield 7, 3) := by decide +kernel
theorem dX2_when_15 : decode cX2_when 15 = .ok (.iload_n 1, 1) := by decide +kernel
theorem dX2_when_16 : decode cX2_when 16 = .ok (.iconst 0, 1) := by decide +kernel
theorem dX2_when_17 : decode cX2_when 17 = .ok (.iconst 4, 1) := by decide +kernel
theorem dX2_when_18 : decode cX2_when 18 = .ok (.invokestatic 39, 3) := by decide +kernel
theorem dX2_when_21 : decode cX2_when 21 = .ok (.invokevirtual 43, 3) := by decide +kernel
theorem dX2_when_24 : decode cX2_when 24 = .ok (.iload_n 1, 1) := by decide +kernel
theorem dX2_when_25 : decode cX2_when 25 = .ok (.iconst 5, 1) := by decide +kernel
theorem dX2_when_26 : decode cX2_when 26 = .ok (.bipush 19, 2) := by decide +kernel
theorem dX2_when_28 : decode cX2_when 28 = .ok (.invokestatic 25, 3) := by decide +kernel
theorem dX2_when_31 : decode cX2_when 31 = .ok (.invokevirtual 31, 3) := by decide +kernel
theorem dX2_when_34 : decode cX2_when 34 = .ok (.ireturn, 1) := by decide +kernel
def F_X2_when_c34 (τ : XS) (a0 : Int32) (s0 : Bool) : Bool × XS := (s0, τ)
def F_X2_when (σ : XS) (a0 : Int32) : Bool × XS := (if (F_X1_isOne a0 (4 : Int32)) = true then (false, σ) else (F_X2_when_c34 (F_X2_jump σ (F_X8_meets σ (F_X1_field a0 (0 : Int32) (4 : Int32))) (F_X1_signedField a0 (5 : Int32) (19 : Int32))).2 a0 (F_X2_jump σ (F_X8_meets σ (F_X1_field a0 (0 : Int32) (4 : Int32))) (F_X1_signedField a0 (5 : Int32) (19 : Int32))).1))
set_option maxHeartbeats 4000000 in
set_option maxRecDepth 100000 in
theorem c_X2_when (l : Launch) (z : Cx) (r : Nat → Nat) (σ : XS) (a0 : Int32) (sz : Nat) (res : Bool × XS) (hf : F_X2_when σ a0 = res) : Met l yX2_when (wsC yX2_when cX2_when 2 (some .boolean)) { frames := 2, cells := 0, slots := 0, locals := 45 } (mPc z (xW z r σ) sz [.ref (r 11), .int a0]) (gM z (va_A (xW z r σ) sz) (some (.int (zB res.1))) (xW z r res.2)) 0 0 (va_A (xW z r σ) sz) := by
  refine mk_m_z (own := RX2) (wf := xW z r) (by decide) rfl sz _ (Nat.le_of_ble_eq_true rfl) (fun p e s m below meth c A H locs Q ls S hK hA hP hD hS hl hend => ?_)
  have hx := S.1
  have hb := S.2.1
  have hown := S.2.2.2.1
  have hts := S.2.2.2.2
  have hl : lv_has ls 2 [(0, .ref (r 11)), (1, .int a0)] := hl
  have J_c34 : ∀ (τ : XS) (s0 : Bool) (H : Heap) (locs : List Loc) (ls : Array Slot), F_X2_when_c34 τ a0 s0 = res → va_P z.1 vwCl (xW z r τ) H → va_D A (xW z r τ) → va_S A s.heap H locs → lv_has ls 2 [] → W p l e { frames := 2, cells := 0, slots := 0, locals := 45 } s m ([.ref (r 11), .int a0] : List Value).toArray below meth c H locs 0 0 Q (F0 m 34 ls [.int (zB s0)]) := by
    intro τ s0 H locs ls hf hP hD hS hl
    unfold F_X2_when_c34 at hf
    exact hend s0 τ H locs 34 ls hf hP hD hS dX2_when_34
  unfold F_X2_when at hf
  refine lv_iload_n hx hb dX2_when_0 rfl (lv_at hl 1 rfl) ?_
  refine lv_iconst (v := 4) hx hb dX2_when_1 (by decide) ?_
  refine k_X1_isOne (a0 := a0) (a1 := (4 : Int32)) S tl_X2_35 ⟨Nat.le_of_ble_eq_true rfl, Nat.le_of_ble_eq_true rfl⟩ hl.1 (Nat.le_of_ble_eq_true rfl) dX2_when_2 ?_
  refine gz_eq (tgt := 10) hx hb dX2_when_5 (by decide) (fun c_5 => ?_) (fun c_5 => ?_)
  · rw [if_neg c_5] at hf
    refine lv_aload_n hx hb dX2_when_10 rfl (lv_at hl 0 rfl) ?_
    refine lv_aload_n hx hb dX2_when_11 rfl (lv_at hl 0 rfl) ?_
    refine fg_X2_state S hK hP tf_X2_7 dX2_when_12 ?_
    refine lv_iload_n hx hb dX2_when_15 rfl (lv_at hl 1 rfl) ?_
    refine lv_iconst (v := 0) hx hb dX2_when_16 (by decide) ?_
    refine lv_iconst (v := 4) hx hb dX2_when_17 (by decide) ?_
    refine k_X1_field (a0 := a0) (a1 := (0 : Int32)) (a2 := (4 : Int32)) S tl_X2_39 ⟨Nat.le_of_ble_eq_true rfl, Nat.le_of_ble_eq_true rfl⟩ hl.1 (Nat.le_of_ble_eq_true rfl) dX2_when_18 ?_
    refine k_X8_meets (a0 := (F_X1_field a0 (0 : Int32) (4 : Int32))) S hK hP tl_X2_43 ⟨Nat.le_of_ble_eq_true rfl, Nat.le_of_ble_eq_true rfl⟩ hl.1 (Nat.le_of_ble_eq_true rfl) dX2_when_21 ?_
    refine lv_iload_n hx hb dX2_when_24 rfl (lv_at hl 1 rfl) ?_
    refine lv_iconst (v := 5) hx hb dX2_when_25 (by decide) ?_
    refine lv_bipush (v := 19) hx hb dX2_when_26 (by decide) ?_
    refine k_X1_signedField (a0 := a0) (a1 := (5 : Int32)) (a2 := (19 : Int32)) S tl_X2_25 ⟨Nat.le_of_ble_eq_true rfl, Nat.le_of_ble_eq_true rfl⟩ hl.1 (Nat.le_of_ble_eq_true rfl) dX2_when_28 ?_
    refine k_X2_jump (a0 := (F_X8_meets σ (F_X1_field a0 (0 : Int32) (4 : Int32)))) (a1 := (F_X1_signedField a0 (5 : Int32) (19 : Int32))) S hK hA hP hD hS tl_X2_31 ⟨Nat.le_of_ble_eq_true rfl, Nat.le_of_ble_eq_true rfl⟩ hl.1 (Nat.le_of_ble_eq_true rfl) dX2_when_31 (fun H locs hP hD hS => ?_)
    exact J_c34 (F_X2_jump σ (F_X8_meets σ (F_X1_field a0 (0 : Int32) (4 : Int32))) (F_X1_signedField a0 (5 : Int32) (19 : Int32))).2 (F_X2_jump σ (F_X8_meets σ (F_X1_field a0 (0 : Int32) (4 : Int32))) (F_X1_signedField a0 (5 : Int32) (19 : Int32))).1 H locs ls hf hP hD hS (lv_sub hl [] rfl)
  · rw [if_pos c_5] at hf
    refine lv_iconst (v := 0) hx hb dX2_when_8 (by decide) ?_
    exact hend false σ H locs 9 ls hf hP hD hS dX2_when_9
theorem k_X2_when {p : Program} {l : Launch} {e : Env} {R : Room} {s : State} {m : MethodId} {args : Array Value} {below : List Frame} {meth : Method} {c : Code} {H : Heap} {locs : List Loc} {Q : State → Prop} {cc : ByteArray} {pc : Nat} {ls : Array Slot} {rest : List Value} {own : String} {index nL : Nat} {A : Nat → Prop} {z : Cx} {r : Nat → Nat} {σ : XS} {a0 : Int32} (S : CallFix p m c cc nL s args tbG own) (hK : va_K z.1 vwCl (cxT z) s) (hA : ∀ q, s.heap.size ≤ q → A q) (hP : va_P z.1 vwCl (xW z r σ) H) (hD : va_D A (xW z r σ)) (hS : va_S A s.heap H locs) (hl : Cond.methodLink own index yX2_when ∈ tbG) (hR : 2 + 1 ≤ R.frames ∧ 8 + (2 + 11) + 45 ≤ R.locals) (hsz : ls.size = nL) (hcat : (rest.map fun v => v.category).sum ≤ 8) (hdg : decode cc pc = .ok (.invokevirtual index, 3)) (kk : ∀ (H : Heap) (locs : List Loc), va_P z.1 vwCl (xW z r (F_X2_when σ a0).2) H → va_D A (xW z r (F_X2_when σ a0).2) → va_S A s.heap H locs → W p l e R s m args below meth c H locs 0 0 Q (F0 m (pc + 3) ls (.int (zB (F_X2_when σ a0).1) :: rest))) : W p l e R s m args below meth c H locs 0 0 Q (F0 m pc ls (.int a0 :: .ref (r 11) :: rest)) :=
  km (As := [.int a0]) (ov := some (.int (zB (F_X2_when σ a0).1))) (w' := xW z r (F_X2_when σ a0).2) (q0 := 11) (ci := 1) S hK hA hP hD hS (c_X2_when l z r σ a0 H.size _ rfl) ⟨tb_cB 1 S.2.2.2.2 tc_X2_when ti_X2 hl rfl rfl (by decide +kernel) hR, S.2.2.2.2 _ tm_X2_when, S.2.2.2.2 _ te_X2_when⟩ rfl rfl rfl rfl hsz rfl hcat hdg kk

theorem dX2_zero_0 : decode cX2_zero 0 = .ok (.aload_n 0, 1) := by decide +kernel
theorem dX2_zero_1 : decode cX2_zero 1 = .ok (.getfield 7, 3) := by decide +kernel
theorem dX2_zero_4 : decode cX2_zero 4 = .ok (.iload_n 1, 1) := by decide +kernel
theorem dX2_zero_5 : decode cX2_zero 5 = .ok (.iconst 0, 1) := by decide +kernel
theorem dX2_zero_6 : decode cX2_zero 6 = .ok (.iconst 5, 1) := by decide +kernel
theorem dX2_zero_7 : decode cX2_zero 7 = .ok (.invokestatic 39, 3) := by decide +kernel
theorem dX2_zero_10 : decode cX2_zero 10 = .ok (.invokevirtual 47, 3) := by decide +kernel
theorem dX2_zero_13 : decode cX2_zero 13 = .ok (.iload_n 1, 1) := by decide +kernel
theorem dX2_zero_14 : decode cX2_zero 14 = .ok (.ifCond .ge 7, 3) := by decide +kernel
theorem dX2_zero_17 : decode cX2_zero 17 = .ok (.iconst 1, 1) := by decide +kernel
theorem dX2_zero_18 : decode cX2_zero 18 = .ok (.goto 4, 3) := by decide +kernel
theorem dX2_zero_21 : decode cX2_zero 21 = .ok (.iconst 0, 1) := by decide +kernel
theorem dX2_zero_22 : decode cX2_zero 22 = .ok (.invokestatic 51, 3) := by decide +kernel
theorem dX2_zero_25 : decode cX2_zero 25 = .ok (.lconst 0, 1) := by decide +kernel
theorem dX2_zero_26 : decode cX2_zero 26 = .ok (.lcmp, 1) := by decide +kernel
theorem dX2_zero_27 : decode cX2_zero 27 = .ok (.ifCond .ne 7, 3) := by decide +kernel
theorem dX2_zero_30 : decode cX2_zero 30 = .ok (.iconst 1, 1) := by decide +kernel
theorem dX2_zero_31 : decode cX2_zero 31 = .ok (.goto 4, 3) := by decide +kernel
theorem dX2_zero_34 : decode cX2_zero 34 = .ok (.iconst 0, 1) := by decide +kernel
theorem dX2_zero_35 : decode cX2_zero 35 = .ok (.istore_n 2, 1) := by decide +kernel
theorem dX2_zero_36 : decode cX2_zero 36 = .ok (.aload_n 0, 1) := by decide +kernel
theorem dX2_zero_37 : decode cX2_zero 37 = .ok (.iload_n 2, 1) := by decide +kernel
theorem dX2_zero_38 : decode cX2_zero 38 = .ok (.iload_n 1, 1) := by decide +kernel
theorem dX2_zero_39 : decode cX2_zero 39 = .ok (.bipush 24, 2) := by decide +kernel
theorem dX2_zero_41 : decode cX2_zero 41 = .ok (.invokestatic 35, 3) := by decide +kernel
theorem dX2_zero_44 : decode cX2_zero 44 = .ok (.if_icmp .eq 7, 3) := by decide +kernel
theorem dX2_zero_47 : decode cX2_zero 47 = .ok (.iconst 1, 1) := by decide +kernel
theorem dX2_zero_48 : decode cX2_zero 48 = .ok (.goto 4, 3) := by decide +kernel
theorem dX2_zero_51 : decode cX2_zero 51 = .ok (.iconst 0, 1) := by decide +kernel
theorem dX2_zero_52 : decode cX2_zero 52 = .ok (.iload_n 1, 1) := by decide +kernel
theorem dX2_zero_53 : decode cX2_zero 53 = .ok (.iconst 5, 1) := by decide +kernel
theorem dX2_zero_54 : decode cX2_zero 54 = .ok (.bipush 19, 2) := by decide +kernel
theorem dX2_zero_56 : decode cX2_zero 56 = .ok (.invokestatic 25, 3) := by decide +kernel
theorem dX2_zero_59 : decode cX2_zero 59 = .ok (.invokevirtual 31, 3) := by decide +kernel
theorem dX2_zero_62 : decode cX2_zero 62 = .ok (.ireturn, 1) := by decide +kernel
def F_X2_zero_c62 (τ : XS) (a0 : Int32) (s0 : Bool) : Bool × XS := (s0, τ)
def F_X2_zero_c52 (τ : XS) (a0 : Int32) (s1 : Bool) : Bool × XS := (F_X2_zero_c62 (F_X2_jump τ s1 (F_X1_signedField a0 (5 : Int32) (19 : Int32))).2 a0 (F_X2_jump τ s1 (F_X1_signedField a0 (5 : Int32) (19 : Int32))).1)
def F_X2_zero_c35 (τ : XS) (a0 : Int32) (s0 : Bool) : Bool × XS := (if s0 = (F_X1_isOne a0 (24 : Int32)) then (F_X2_zero_c52 τ a0 false) else (F_X2_zero_c52 τ a0 true))
def F_X2_zero_c22 (τ : XS) (a0 : Int32) (s0 : Int64) (s1 : Bool) : Bool × XS := (if (F_X1_narrow s0 s1) = (0 : Int64) then (F_X2_zero_c35 τ a0 true) else (F_X2_zero_c35 τ a0 false))
def F_X2_zero (σ : XS) (a0 : Int32) : Bool × XS := (if 0 ≤ a0 then (F_X2_zero_c22 σ a0 (F_X8_register σ (F_X1_field a0 (0 : Int32) (5 : Int32))) false) else (F_X2_zero_c22 σ a0 (F_X8_register σ (F_X1_field a0 (0 : Int32) (5 : Int32))) true))
set_option maxHeartbeats 4000000 in
set_option maxRecDepth 100000 in
theorem c_X2_zero (l : Launch) (z : Cx) (r : Nat → Nat) (σ : XS) (a0 : Int32) (sz : Nat) (res : Bool × XS) (hf : F_X2_zero σ a0 = res) : Met l yX2_zero (wsC yX2_zero cX2_zero 3 (some .boolean)) { frames := 2, cells := 0, slots := 0, locals := 45 } (mPc z (xW z r σ) sz [.ref (r 11), .int a0]) (gM z (va_A (xW z r σ) sz) (some (.int (zB res.1))) (xW z r res.2)) 0 0 (va_A (xW z r σ) sz) := by
  refine mk_m_z (own := RX2) (wf := xW z r) (by decide) rfl sz _ (Nat.le_of_ble_eq_true rfl) (fun p e s m below meth c A H locs Q ls S hK hA hP hD hS hl hend => ?_)
  have hx := S.1
  have hb := S.2.1
  have hown := S.2.2.2.1
  have hts := S.2.2.2.2
  have hl : lv_has ls 3 [(0, .ref (r 11)), (1, .int a0)] := hl
  have J_c62 : ∀ (τ : XS) (s0 : Bool) (H : Heap) (locs : List Loc) (ls : Array Slot), F_X2_zero_c62 τ a0 s0 = res → va_P z.1 vwCl (xW z r τ) H → va_D A (xW z r τ) → va_S A s.heap H locs → lv_has ls 3 [] → W p l e { frames := 2, cells := 0, slots := 0, locals := 45 } s m ([.ref (r 11), .int a0] : List Value).toArray below meth c H locs 0 0 Q (F0 m 62 ls [.int (zB s0)]) := by
    intro τ s0 H locs ls hf hP hD hS hl
    unfold F_X2_zero_c62 at hf
    exact hend s0 τ H locs 62 ls hf hP hD hS dX2_zero_62
  have J_c52 : ∀ (τ : XS) (s1 : Bool) (H : Heap) (locs : List Loc) (ls : Array Slot), F_X2_zero_c52 τ a0 s1 = res → va_P z.1 vwCl (xW z r τ) H → va_D A (xW z r τ) → va_S A s.heap H locs → lv_has ls 3 [(1, .int a0)] → W p l e { frames := 2, cells := 0, slots := 0, locals := 45 } s m ([.ref (r 11), .int a0] : List Value).toArray below meth c H locs 0 0 Q (F0 m 52 ls [.int (zB s1), .ref (r 11)]) := by
    intro τ s1 H locs ls hf hP hD hS hl
    unfold F_X2_zero_c52 at hf
    refine lv_iload_n hx hb dX2_zero_52 rfl (lv_at hl 0 rfl) ?_
    refine lv_iconst (v := 5) hx hb dX2_zero_53 (by decide) ?_
    refine lv_bipush (v := 19) hx hb dX2_zero_54 (by decide) ?_
    refine k_X1_signedField (a0 := a0) (a1 := (5 : Int32)) (a2 := (19 : Int32)) S tl_X2_25 ⟨Nat.le_of_ble_eq_true rfl, Nat.le_of_ble_eq_true rfl⟩ hl.1 (Nat.le_of_ble_eq_true rfl) dX2_zero_56 ?_
    refine k_X2_jump (a0 := s1) (a1 := (F_X1_signedField a0 (5 : Int32) (19 : Int32))) S hK hA hP hD hS tl_X2_31 ⟨Nat.le_of_ble_eq_true rfl, Nat.le_of_ble_eq_true rfl⟩ hl.1 (Nat.le_of_ble_eq_true rfl) dX2_zero_59 (fun H locs hP hD hS => ?_)
    exact J_c62 (F_X2_jump τ s1 (F_X1_signedField a0 (5 : Int32) (19 : Int32))).2 (F_X2_jump τ s1 (F_X1_signedField a0 (5 : Int32) (19 : Int32))).1 H locs ls hf hP hD hS (lv_sub hl [] rfl)
  have J_c35 : ∀ (τ : XS) (s0 : Bool) (H : Heap) (locs : List Loc) (ls : Array Slot), F_X2_zero_c35 τ a0 s0 = res → va_P z.1 vwCl (xW z r τ) H → va_D A (xW z r τ) → va_S A s.heap H locs → lv_has ls 3 [(0, .ref (r 11)), (1, .int a0)] → W p l e { frames := 2, cells := 0, slots := 0, locals := 45 } s m ([.ref (r 11), .int a0] : List Value).toArray below meth c H locs 0 0 Q (F0 m 35 ls [.int (zB s0)]) := by
    intro τ s0 H locs ls hf hP hD hS hl
    unfold F_X2_zero_c35 at hf
    refine lv_istore_n (lv' := [(2, .int (zB s0)), (0, .ref (r 11)), (1, .int a0)]) hx hb dX2_zero_35 rfl hl (by decide) rfl (fun ls hl => ?_)
    refine lv_aload_n hx hb dX2_zero_36 rfl (lv_at hl 1 rfl) ?_
    refine lv_iload_n hx hb dX2_zero_37 rfl (lv_at hl 0 rfl) ?_
    refine lv_iload_n hx hb dX2_zero_38 rfl (lv_at hl 2 rfl) ?_
    refine lv_bipush (v := 24) hx hb dX2_zero_39 (by decide) ?_
    refine k_X1_isOne (a0 := a0) (a1 := (24 : Int32)) S tl_X2_35 ⟨Nat.le_of_ble_eq_true rfl, Nat.le_of_ble_eq_true rfl⟩ hl.1 (Nat.le_of_ble_eq_true rfl) dX2_zero_41 ?_
    refine gz_ceq (tgt := 51) hx hb dX2_zero_44 (by decide) (fun c_44 => ?_) (fun c_44 => ?_)
    · rw [if_pos c_44] at hf
      refine lv_iconst (v := 0) hx hb dX2_zero_51 (by decide) ?_
      exact J_c52 τ false H locs ls hf hP hD hS (lv_sub hl [2] rfl)
    · rw [if_neg c_44] at hf
      refine lv_iconst (v := 1) hx hb dX2_zero_47 (by decide) ?_
      refine lv_goto (tgt := 52) hx hb dX2_zero_48 (by decide) ?_
      exact J_c52 τ true H locs ls hf hP hD hS (lv_sub hl [2] rfl)
  have J_c22 : ∀ (τ : XS) (s0 : Int64) (s1 : Bool) (H : Heap) (locs : List Loc) (ls : Array Slot), F_X2_zero_c22 τ a0 s0 s1 = res → va_P z.1 vwCl (xW z r τ) H → va_D A (xW z r τ) → va_S A s.heap H locs → lv_has ls 3 [(0, .ref (r 11)), (1, .int a0)] → W p l e { frames := 2, cells := 0, slots := 0, locals := 45 } s m ([.ref (r 11), .int a0] : List Value).toArray below meth c H locs 0 0 Q (F0 m 22 ls [.int (zB s1), .long s0]) := by
    intro τ s0 s1 H locs ls hf hP hD hS hl
    unfold F_X2_zero_c22 at hf
    refine k_X1_narrow (a0 := s0) (a1 := s1) S tl_X2_51 ⟨Nat.le_of_ble_eq_true rfl, Nat.le_of_ble_eq_true rfl⟩ hl.1 (Nat.le_of_ble_eq_true rfl) dX2_zero_22 ?_
    refine lv_lconst (v := 0) hx hb dX2_zero_25 (by decide) ?_
    refine gl_ne (tgt := 34) hx hb dX2_zero_26 dX2_zero_27 (by decide) (fun c_26 => ?_) (fun c_26 => ?_)
    · rw [if_neg c_26] at hf
      refine lv_iconst (v := 0) hx hb dX2_zero_34 (by decide) ?_
      exact J_c35 τ false H locs ls hf hP hD hS (lv_sub hl [0, 1] rfl)
    · rw [if_pos c_26] at hf
      refine lv_iconst (v := 1) hx hb dX2_zero_30 (by decide) ?_
      refine lv_goto (tgt := 35) hx hb dX2_zero_31 (by decide) ?_
      exact J_c35 τ true H locs ls hf hP hD hS (lv_sub hl [0, 1] rfl)
  unfold F_X2_zero at hf
  refine lv_aload_n hx hb dX2_zero_0 rfl (lv_at hl 0 rfl) ?_
  refine fg_X2_state S hK hP tf_X2_7 dX2_zero_1 ?_
  refine lv_iload_n hx hb dX2_zero_4 rfl (lv_at hl 1 rfl) ?_
  refine lv_iconst (v := 0) hx hb dX2_zero_5 (by decide) ?_
  refine lv_iconst (v := 5) hx hb dX2_zero_6 (by decide) ?_
  refine k_X1_field (a0 := a0) (a1 := (0 : Int32)) (a2 := (5 : Int32)) S tl_X2_39 ⟨Nat.le_of_ble_eq_true rfl, Nat.le_of_ble_eq_true rfl⟩ hl.1 (Nat.le_of_ble_eq_true rfl) dX2_zero_7 ?_
  refine k_X8_register (a0 := (F_X1_field a0 (0 : Int32) (5 : Int32))) S hK hP tl_X2_47 ⟨Nat.le_of_ble_eq_true rfl, Nat.le_of_ble_eq_true rfl⟩ hl.1 (Nat.le_of_ble_eq_true rfl) dX2_zero_10 ?_
  refine lv_iload_n hx hb dX2_zero_13 rfl (lv_at hl 1 rfl) ?_
  refine lv_if_ge (tgt := 21) hx hb dX2_zero_14 (by decide) (fun c_14 => ?_) (fun c_14 => ?_)
  · rw [if_pos c_14] at hf
    refine lv_iconst (v := 0) hx hb dX2_zero_21 (by decide) ?_
    exact J_c22 σ (F_X8_register σ (F_X1_field a0 (0 : Int32) (5 : Int32))) false H locs ls hf hP hD hS (lv_sub hl [0, 1] rfl)
  · rw [if_neg c_14] at hf
    refine lv_iconst (v := 1) hx hb dX2_zero_17 (by decide) ?_
    refine lv_goto (tgt := 22) hx hb dX2_zero_18 (by decide) ?_
    exact J_c22 σ (F_X8_register σ (F_X1_field a0 (0 : Int32) (5 : Int32))) true H locs ls hf hP hD hS (lv_sub hl [0, 1] rfl)
theorem k_X2_zero {p : Program} {l : Launch} {e : Env} {R : Room} {s : State} {m : MethodId} {args : Array Value} {below : List Frame} {meth : Method} {c : Code} {H : Heap} {locs : List Loc} {Q : State → Prop} {cc : ByteArray} {pc : Nat} {ls : Array Slot} {rest : List Value} {own : String} {index nL : Nat} {A : Nat → Prop} {z : Cx} {r : Nat → Nat} {σ : XS} {a0 : Int32} (S : CallFix p m c cc nL s args tbG own) (hK : va_K z.1 vwCl (cxT z) s) (hA : ∀ q, s.heap.size ≤ q → A q) (hP : va_P z.1 vwCl (xW z r σ) H) (hD : va_D A (xW z r σ)) (hS : va_S A s.heap H locs) (hl : Cond.methodLink own index yX2_zero ∈ tbG) (hR : 2 + 1 ≤ R.frames ∧ 8 + (3 + 11) + 45 ≤ R.locals) (hsz : ls.size = nL) (hcat : (rest.map fun v => v.category).sum ≤ 8) (hdg : decode cc pc = .ok (.invokevirtual index, 3)) (kk : ∀ (H : Heap) (locs : List Loc), va_P z.1 vwCl (xW z r (F_X2_zero σ a0).2) H → va_D A (xW z r (F_X2_zero σ a0).2) → va_S A s.heap H locs → W p l e R s m args below meth c H locs 0 0 Q (F0 m (pc + 3) ls (.int (zB (F_X2_zero σ a0).1) :: rest))) : W p l e R s m args below meth c H locs 0 0 Q (F0 m pc ls (.int a0 :: .ref (r 11) :: rest)) :=
  km (As := [.int a0]) (ov := some (.int (zB (F_X2_zero σ a0).1))) (w' := xW z r (F_X2_zero σ a0).2) (q0 := 11) (ci := 1) S hK hA hP hD hS (c_X2_zero l z r σ a0 H.size _ rfl) ⟨tb_cB 1 S.2.2.2.2 tc_X2_zero ti_X2 hl rfl rfl (by decide +kernel) hR, S.2.2.2.2 _ tm_X2_zero, S.2.2.2.2 _ te_X2_zero⟩ rfl rfl rfl rfl hsz rfl hcat hdg kk

theorem dX2_bit_0 : decode cX2_bit 0 = .ok (.iload_n 1, 1) := by decide +kernel
theorem dX2_bit_1 : decode cX2_bit 1 = .ok (.bipush 31, 2) := by decide +kernel
theorem dX2_bit_3 : decode cX2_bit 3 = .ok (.iconst 1, 1) := by decide +kernel
theorem dX2_bit_4 : decode cX2_bit 4 = .ok (.invokestatic 39, 3) := by decide +kernel
theorem dX2_bit_7 : decode cX2_bit 7 = .ok (.iconst 5, 1) := by decide +kernel
theorem dX2_bit_8 : decode cX2_bit 8 = .ok (.ishl, 1) := by decide +kernel
theorem dX2_bit_9 : decode cX2_bit 9 = .ok (.iload_n 1, 1) := by decide +kernel
theorem dX2_bit_10 : decode cX2_bit 10 = .ok (.bipush 19, 2) := by decide +kernel
theorem dX2_bit_12 : decode cX2_bit 12 = .ok (.iconst 5, 1) := by decide +kernel
theorem dX2_bit_13 : decode cX2_bit 13 = .ok (.invokestatic 39, 3) := by decide +kernel
theorem dX2_bit_16 : decode cX2_bit 16 = .ok (.ior, 1) := by decide +kernel
theorem dX2_bit_17 : decode cX2_bit 17 = .ok (.istore_n 2, 1) := by decide +kernel
theorem dX2_bit_18 : decode cX2_bit 18 = .ok (.aload_n 0, 1) := by decide +kernel
theorem dX2_bit_19 : decode cX2_bit 19 = .ok (.getfield 7, 3) := by decide +kernel
theorem dX2_bit_22 : decode cX2_bit 22 = .ok (.iload_n 1, 1) := by decide +kernel
theorem dX2_bit_23 : decode cX2_bit 23 = .ok (.iconst 0, 1) := by decide +kernel
theorem dX2_bit_24 : decode cX2_bit 24 = .ok (.iconst 5, 1) := by decide +kernel
theorem dX2_bit_25 : decode cX2_bit 25 = .ok (.invokestatic 39, 3) := by decide +kernel
theorem dX2_bit_28 : decode cX2_bit 28 = .ok (.invokevirtual 47, 3) := by decide +kernel
theorem dX2_bit_31 : decode cX2_bit 31 = .ok (.iload_n 2, 1) := by decide +kernel
theorem dX2_bit_32 : decode cX2_bit 32 = .ok (.lushr, 1) := by decide +kernel
theorem dX2_bit_33 : decode cX2_bit 33 = .ok (.lconst 1, 1) := by decide +kernel
theorem dX2_bit_34 : decode cX2_bit 34 = .ok (.land, 1) := by decide +kernel
theorem dX2_bit_35 : decode cX2_bit 35 = .ok (.lconst 0, 1) := by decide +kernel
theorem dX2_bit_36 : decode cX2_bit 36 = .ok (.lcmp, 1) := by decide +kernel
theorem dX2_bit_37 : decode cX2_bit 37 = .ok (.ifCond .ne 7, 3) := by decide +kernel
theorem dX2_bit_40 : decode cX2_bit 40 = .ok (.iconst 1, 1) := by decide +kernel
theorem dX2_bit_41 : decode cX2_bit 41 = .ok (.goto 4, 3) := by decide +kernel
theorem dX2_bit_44 : decode cX2_bit 44 = .ok (.iconst 0, 1) := by decide +kernel
theorem dX2_bit_45 : decode cX2_bit 45 = .ok (.istore_n 3, 1) := by decide +kernel
theorem dX2_bit_46 : decode cX2_bit 46 = .ok (.aload_n 0, 1) := by decide +kernel
theorem dX2_bit_47 : decode cX2_bit 47 = .ok (.iload_n 3, 1) := by decide +kernel
theorem dX2_bit_48 : decode cX2_bit 48 = .ok (.iload_n 1, 1) := by decide +kernel
theorem dX2_bit_49 : decode cX2_bit 49 = .ok (.bipush 24, 2) := by decide +kernel
theorem dX2_bit_51 : decode cX2_bit 51 = .ok (.invokestatic 35, 3) := by decide +kernel
theorem dX2_bit_54 : decode cX2_bit 54 = .ok (.if_icmp .eq 7, 3) := by decide +kernel
theorem dX2_bit_57 : decode cX2_bit 57 = .ok (.iconst 1, 1) := by decide +kernel
theorem dX2_bit_58 : decode cX2_bit 58 = .ok (.goto 4, 3) := by decide +kernel
theorem dX2_bit_61 : decode cX2_bit 61 = .ok (.iconst 0, 1) := by decide +kernel
theorem dX2_bit_62 : decode cX2_bit 62 = .ok (.iload_n 1, 1) := by decide +kernel
theorem dX2_bit_63 : decode cX2_bit 63 = .ok (.iconst 5, 1) := by decide +kernel
theorem dX2_bit_64 : decode cX2_bit 64 = .ok (.bipush 14, 2) := by decide +kernel
theorem dX2_bit_66 : decode cX2_bit 66 = .ok (.invokestatic 25, 3) := by decide +kernel
theorem dX2_bit_69 : decode cX2_bit 69 = .ok (.invokevirtual 31, 3) := by decide +kernel
theorem dX2_bit_72 : decode cX2_bit 72 = .ok (.ireturn, 1) := by decide +kernel
def F_X2_bit_c72 (τ : XS) (a0 : Int32) (s0 : Bool) : Bool × XS := (s0, τ)
def F_X2_bit_c62 (τ : XS) (a0 : Int32) (s1 : Bool) : Bool × XS := (F_X2_bit_c72 (F_X2_jump τ s1 (F_X1_signedField a0 (5 : Int32) (14 : Int32))).2 a0 (F_X2_jump τ s1 (F_X1_signedField a0 (5 : Int32) (14 : Int32))).1)
def F_X2_bit_c45 (τ : XS) (a0 : Int32) (s0 : Bool) : Bool × XS := (if s0 = (F_X1_isOne a0 (24 : Int32)) then (F_X2_bit_c62 τ a0 false) else (F_X2_bit_c62 τ a0 true))
def F_X2_bit (σ : XS) (a0 : Int32) : Bool × XS := (if ((j_lushr (F_X8_register σ (F_X1_field a0 (0 : Int32) (5 : Int32))) (((F_X1_field a0 (31 : Int32) (1 : Int32)) <<< ((5 : Int32) &&& 31)) ||| (F_X1_field a0 (19 : Int32) (5 : Int32)))) &&& (1 : Int64)) = (0 : Int64) then (F_X2_bit_c45 σ a0 true) else (F_X2_bit_c45 σ a0 false))
set_option maxHeartbeats 4000000 in
set_option maxRecDepth 100000 in
theorem c_X2_bit (l : Launch) (z : Cx) (r : Nat → Nat) (σ : XS) (a0 : Int32) (sz : Nat) (res : Bool × XS) (hf : F_X2_bit σ a0 = res) : Met l yX2_bit (wsC yX2_bit cX2_bit 4 (some .boolean)) { frames := 2, cells := 0, slots := 0, locals := 45 } (mPc z (xW z r σ) sz [.ref (r 11), .int a0]) (gM z (va_A (xW z r σ) sz) (some (.int (zB res.1))) (xW z r res.2)) 0 0 (va_A (xW z r σ) sz) := by
  refine mk_m_z (own := RX2) (wf := xW z r) (by decide) rfl sz _ (Nat.le_of_ble_eq_true rfl) (fun p e s m below meth c A H locs Q ls S hK hA hP hD hS hl hend => ?_)
  have hx := S.1
  have hb := S.2.1
  have hown := S.2.2.2.1
  have hts := S.2.2.2.2
  have hl : lv_has ls 4 [(0, .ref (r 11)), (1, .int a0)] := hl
  have J_c72 : ∀ (τ : XS) (s0 : Bool) (H : Heap) (locs : List Loc) (ls : Array Slot), F_X2_bit_c72 τ a0 s0 = res → va_P z.1 vwCl (xW z r τ) H → va_D A (xW z r τ) → va_S A s.heap H locs → lv_has ls 4 [] → W p l e { frames := 2, cells := 0, slots := 0, locals := 45 } s m ([.ref (r 11), .int a0] : List Value).toArray below meth c H locs 0 0 Q (F0 m 72 ls [.int (zB s0)]) := by
    intro τ s0 H locs ls hf hP hD hS hl
    unfold F_X2_bit_c72 at hf
    exact hend s0 τ H locs 72 ls hf hP hD hS dX2_bit_72
  have J_c62 : ∀ (τ : XS) (s1 : Bool) (H : Heap) (locs : List Loc) (ls : Array Slot), F_X2_bit_c62 τ a0 s1 = res → va_P z.1 vwCl (xW z r τ) H → va_D A (xW z r τ) → va_S A s.heap H locs → lv_has ls 4 [(1, .int a0)] → W p l e { frames := 2, cells := 0, slots := 0, locals := 45 } s m ([.ref (r 11), .int a0] : List Value).toArray below meth c H locs 0 0 Q (F0 m 62 ls [.int (zB s1), .ref (r 11)]) := by
    intro τ s1 H locs ls hf hP hD hS hl
    unfold F_X2_bit_c62 at hf
    refine lv_iload_n hx hb dX2_bit_62 rfl (lv_at hl 0 rfl) ?_
    refine lv_iconst (v := 5) hx hb dX2_bit_63 (by decide) ?_
    refine lv_bipush (v := 14) hx hb dX2_bit_64 (by decide) ?_
    refine k_X1_signedField (a0 := a0) (a1 := (5 : Int32)) (a2 := (14 : Int32)) S tl_X2_25 ⟨Nat.le_of_ble_eq_true rfl, Nat.le_of_ble_eq_true rfl⟩ hl.1 (Nat.le_of_ble_eq_true rfl) dX2_bit_66 ?_
    refine k_X2_jump (a0 := s1) (a1 := (F_X1_signedField a0 (5 : Int32) (14 : Int32))) S hK hA hP hD hS tl_X2_31 ⟨Nat.le_of_ble_eq_true rfl, Nat.le_of_ble_eq_true rfl⟩ hl.1 (Nat.le_of_ble_eq_true rfl) dX2_bit_69 (fun H locs hP hD hS => ?_)
    exact J_c72 (F_X2_jump τ s1 (F_X1_signedField a0 (5 : Int32) (14 : Int32))).2 (F_X2_jump τ s1 (F_X1_signedField a0 (5 : Int32) (14 : Int32))).1 H locs ls hf hP hD hS (lv_sub hl [] rfl)
  have J_c45 : ∀ (τ : XS) (s0 : Bool) (H : Heap) (locs : List Loc) (ls : Array Slot), F_X2_bit_c45 τ a0 s0 = res → va_P z.1 vwCl (xW z r τ) H → va_D A (xW z r τ) → va_S A s.heap H locs → lv_has ls 4 [(0, .ref (r 11)), (1, .int a0)] → W p l e { frames := 2, cells := 0, slots := 0, locals := 45 } s m ([.ref (r 11), .int a0] : List Value).toArray below meth c H locs 0 0 Q (F0 m 45 ls [.int (zB s0)]) := by
    intro τ s0 H locs ls hf hP hD hS hl
    unfold F_X2_bit_c45 at hf
    refine lv_istore_n (lv' := [(3, .int (zB s0)), (0, .ref (r 11)), (1, .int a0)]) hx hb dX2_bit_45 rfl hl (by decide) rfl (fun ls hl => ?_)
    refine lv_aload_n hx hb dX2_bit_46 rfl (lv_at hl 1 rfl) ?_
    refine lv_iload_n hx hb dX2_bit_47 rfl (lv_at hl 0 rfl) ?_
    refine lv_iload_n hx hb dX2_bit_48 rfl (lv_at hl 2 rfl) ?_
    refine lv_bipush (v := 24) hx hb dX2_bit_49 (by decide) ?_
    refine k_X1_isOne (a0 := a0) (a1 := (24 : Int32)) S tl_X2_35 ⟨Nat.le_of_ble_eq_true rfl, Nat.le_of_ble_eq_true rfl⟩ hl.1 (Nat.le_of_ble_eq_true rfl) dX2_bit_51 ?_
    refine gz_ceq (tgt := 61) hx hb dX2_bit_54 (by decide) (fun c_54 => ?_) (fun c_54 => ?_)
    · rw [if_pos c_54] at hf
      refine lv_iconst (v := 0) hx hb dX2_bit_61 (by decide) ?_
      exact J_c62 τ false H locs ls hf hP hD hS (lv_sub hl [2] rfl)
    · rw [if_neg c_54] at hf
      refine lv_iconst (v := 1) hx hb dX2_bit_57 (by decide) ?_
      refine lv_goto (tgt := 62) hx hb dX2_bit_58 (by decide) ?_
      exact J_c62 τ true H locs ls hf hP hD hS (lv_sub hl [2] rfl)
  unfold F_X2_bit at hf
  refine lv_iload_n hx hb dX2_bit_0 rfl (lv_at hl 1 rfl) ?_
  refine lv_bipush (v := 31) hx hb dX2_bit_1 (by decide) ?_
  refine lv_iconst (v := 1) hx hb dX2_bit_3 (by decide) ?_
  refine k_X1_field (a0 := a0) (a1 := (31 : Int32)) (a2 := (1 : Int32)) S tl_X2_39 ⟨Nat.le_of_ble_eq_true rfl, Nat.le_of_ble_eq_true rfl⟩ hl.1 (Nat.le_of_ble_eq_true rfl) dX2_bit_4 ?_
  refine lv_iconst (v := 5) hx hb dX2_bit_7 (by decide) ?_
  refine lv_ishl hx hb dX2_bit_8 ?_
  refine lv_iload_n hx hb dX2_bit_9 rfl (lv_at hl 1 rfl) ?_
  refine lv_bipush (v := 19) hx hb dX2_bit_10 (by decide) ?_
  refine lv_iconst (v := 5) hx hb dX2_bit_12 (by decide) ?_
  refine k_X1_field (a0 := a0) (a1 := (19 : Int32)) (a2 := (5 : Int32)) S tl_X2_39 ⟨Nat.le_of_ble_eq_true rfl, Nat.le_of_ble_eq_true rfl⟩ hl.1 (Nat.le_of_ble_eq_true rfl) dX2_bit_13 ?_
  refine lv_ior hx hb dX2_bit_16 ?_
  refine lv_istore_n (lv' := [(2, .int (((F_X1_field a0 (31 : Int32) (1 : Int32)) <<< ((5 : Int32) &&& 31)) ||| (F_X1_field a0 (19 : Int32) (5 : Int32)))), (0, .ref (r 11)), (1, .int a0)]) hx hb dX2_bit_17 rfl hl (by decide) rfl (fun ls hl => ?_)
  refine lv_aload_n hx hb dX2_bit_18 rfl (lv_at hl 1 rfl) ?_
  refine fg_X2_state S hK hP tf_X2_7 dX2_bit_19 ?_
  refine lv_iload_n hx hb dX2_bit_22 rfl (lv_at hl 2 rfl) ?_
  refine lv_iconst (v := 0) hx hb dX2_bit_23 (by decide) ?_
  refine lv_iconst (v := 5) hx hb dX2_bit_24 (by decide) ?_
  refine k_X1_field (a0 := a0) (a1 := (0 : Int32)) (a2 := (5 : Int32)) S tl_X2_39 ⟨Nat.le_of_ble_eq_true rfl, Nat.le_of_ble_eq_true rfl⟩ hl.1 (Nat.le_of_ble_eq_true rfl) dX2_bit_25 ?_
  refine k_X8_register (a0 := (F_X1_field a0 (0 : Int32) (5 : Int32))) S hK hP tl_X2_47 ⟨Nat.le_of_ble_eq_true rfl, Nat.le_of_ble_eq_true rfl⟩ hl.1 (Nat.le_of_ble_eq_true rfl) dX2_bit_28 ?_
  refine lv_iload_n hx hb dX2_bit_31 rfl (lv_at hl 0 rfl) ?_
  refine lv_lushr (v := (j_lushr (F_X8_register σ (F_X1_field a0 (0 : Int32) (5 : Int32))) (((F_X1_field a0 (31 : Int32) (1 : Int32)) <<< ((5 : Int32) &&& 31)) ||| (F_X1_field a0 (19 : Int32) (5 : Int32))))) hx hb dX2_bit_32 rfl ?_
  refine lv_lconst (v := 1) hx hb dX2_bit_33 (by decide) ?_
  refine lv_land hx hb dX2_bit_34 ?_
  refine lv_lconst (v := 0) hx hb dX2_bit_35 (by decide) ?_
  refine gl_ne (tgt := 44) hx hb dX2_bit_36 dX2_bit_37 (by decide) (fun c_36 => ?_) (fun c_36 => ?_)
  · rw [if_neg c_36] at hf
    refine lv_iconst (v := 0) hx hb dX2_bit_44 (by decide) ?_
    exact J_c45 σ false H locs ls hf hP hD hS (lv_sub hl [1, 2] rfl)
  · rw [if_pos c_36] at hf
    refine lv_iconst (v := 1) hx hb dX2_bit_40 (by decide) ?_
    refine lv_goto (tgt := 45) hx hb dX2_bit_41 (by decide) ?_
    exact J_c45 σ true H locs ls hf hP hD hS (lv_sub hl [1, 2] rfl)
theorem k_X2_bit {p : Program} {l : Launch} {e : Env} {R : Room} {s : State} {m : MethodId} {args : Array Value} {below : List Frame} {meth : Method} {c : Code} {H : Heap} {locs : List Loc} {Q : State → Prop} {cc : ByteArray} {pc : Nat} {ls : Array Slot} {rest : List Value} {own : String} {index nL : Nat} {A : Nat → Prop} {z : Cx} {r : Nat → Nat} {σ : XS} {a0 : Int32} (S : CallFix p m c cc nL s args tbG own) (hK : va_K z.1 vwCl (cxT z) s) (hA : ∀ q, s.heap.size ≤ q → A q) (hP : va_P z.1 vwCl (xW z r σ) H) (hD : va_D A (xW z r σ)) (hS : va_S A s.heap H locs) (hl : Cond.methodLink own index yX2_bit ∈ tbG) (hR : 2 + 1 ≤ R.frames ∧ 8 + (4 + 11) + 45 ≤ R.locals) (hsz : ls.size = nL) (hcat : (rest.map fun v => v.category).sum ≤ 8) (hdg : decode cc pc = .ok (.invokevirtual index, 3)) (kk : ∀ (H : Heap) (locs : List Loc), va_P z.1 vwCl (xW z r (F_X2_bit σ a0).2) H → va_D A (xW z r (F_X2_bit σ a0).2) → va_S A s.heap H locs → W p l e R s m args below meth c H locs 0 0 Q (F0 m (pc + 3) ls (.int (zB (F_X2_bit σ a0).1) :: rest))) : W p l e R s m args below meth c H locs 0 0 Q (F0 m pc ls (.int a0 :: .ref (r 11) :: rest)) :=
  km (As := [.int a0]) (ov := some (.int (zB (F_X2_bit σ a0).1))) (w' := xW z r (F_X2_bit σ a0).2) (q0 := 11) (ci := 1) S hK hA hP hD hS (c_X2_bit l z r σ a0 H.size _ rfl) ⟨tb_cB 1 S.2.2.2.2 tc_X2_bit ti_X2 hl rfl rfl (by decide +kernel) hR, S.2.2.2.2 _ tm_X2_bit, S.2.2.2.2 _ te_X2_bit⟩ rfl rfl rfl rfl hsz rfl hcat hdg kk

theorem dX2_toRegister_0 : decode cX2_toRegister 0 = .ok (.iload_n 1, 1) := by decide +kernel
theorem dX2_toRegister_1 : decode cX2_toRegister 1 = .ok (.bipush 21, 2) := by decide +kernel
theorem dX2_toRegister_3 : decode cX2_toRegister 3 = .ok (.iconst 2, 1) := by decide +kernel
theorem dX2_toRegister_4 : decode cX2_toRegister 4 = .ok (.invokestatic 39, 3) := by decide +kernel
theorem dX2_toRegister_7 : decode cX2_toRegister 7 = .ok (.istore_n 2, 1) := by decide +kernel
theorem dX2_toRegister_8 : decode cX2_toRegister 8 = .ok (.iload_n 1, 1) := by decide +kernel
theorem dX2_toRegister_9 : decode cX2_toRegister 9 = .ok (.bipush 23, 2) := by decide +kernel
theorem dX2_toRegister_11 : decode cX2_toRegister 11 = .ok (.iushr, 1) := by decide +kernel
theorem dX2_toRegister_12 : decode cX2_toRegister 12 = .ok (.sipush 428, 3) := by decide +kernel
theorem dX2_toRegister_15 : decode cX2_toRegister 15 = .ok (.if_icmp .ne 31, 3) := by decide +kernel
theorem dX2_toRegister_18 : decode cX2_toRegister 18 = .ok (.iload_n 2, 1) := by decide +kernel
theorem dX2_toRegister_19 : decode cX2_toRegister 19 = .ok (.iconst 3, 1) := by decide +kernel
theorem dX2_toRegister_20 : decode cX2_toRegister 20 = .ok (.if_icmp .eq 26, 3) := by decide +kernel
theorem dX2_toRegister_23 : decode cX2_toRegister 23 = .ok (.iload_n 1, 1) := by decide +kernel
theorem dX2_toRegister_24 : decode cX2_toRegister 24 = .ok (.bipush 10, 2) := by decide +kernel
theorem dX2_toRegister_26 : decode cX2_toRegister 26 = .ok (.bipush 11, 2) := by decide +kernel
theorem dX2_toRegister_28 : decode cX2_toRegister 28 = .ok (.invokestatic 39, 3) := by decide +kernel
theorem dX2_toRegister_31 : decode cX2_toRegister 31 = .ok (.sipush 1984, 3) := by decide +kernel
theorem dX2_toRegister_34 : decode cX2_toRegister 34 = .ok (.if_icmp .ne 12, 3) := by decide +kernel
theorem dX2_toRegister_37 : decode cX2_toRegister 37 = .ok (.iload_n 1, 1) := by decide +kernel
theorem dX2_toRegister_38 : decode cX2_toRegister 38 = .ok (.iconst 0, 1) := by decide +kernel
theorem dX2_toRegister_39 : decode cX2_toRegister 39 = .ok (.iconst 5, 1) := by decide +kernel
theorem dX2_toRegister_40 : decode cX2_toRegister 40 = .ok (.invokestatic 39, 3) := by decide +kernel
theorem dX2_toRegister_43 : decode cX2_toRegister 43 = .ok (.ifCond .eq 5, 3) := by decide +kernel
theorem dX2_toRegister_46 : decode cX2_toRegister 46 = .ok (.iconst 0, 1) := by decide +kernel
theorem dX2_toRegister_47 : decode cX2_toRegister 47 = .ok (.ireturn, 1) := by decide +kernel
theorem dX2_toRegister_48 : decode cX2_toRegister 48 = .ok (.aload_n 0, 1) := by decide +kernel
theorem dX2_toRegister_49 : decode cX2_toRegister 49 = .ok (.getfield 7, 3) := by decide +kernel
theorem dX2_toRegister_52 : decode cX2_toRegister 52 = .ok (.aload_n 0, 1) := by decide +kernel
theorem dX2_toRegister_53 : decode cX2_toRegister 53 = .ok (.getfield 7, 3) := by decide +kernel
theorem dX2_toRegister_56 : decode cX2_toRegister 56 = .ok (.iload_n 1, 1) := by decide +kernel
theorem dX2_toRegister_57 : decode cX2_toRegister 57 = .ok (.iconst 5, 1) := by decide +kernel
theorem dX2_toRegister_58 : decode cX2_toRegister 58 = .ok (.iconst 5, 1) := by decide +kernel
theorem dX2_toRegister_59 : decode cX2_toRegister 59 = .ok (.invokestatic 39, 3) := by decide +kernel
theorem dX2_toRegister_62 : decode cX2_toRegister 62 = .ok (.invokevirtual 47, 3) := by decide +kernel
theorem dX2_toRegister_65 : decode cX2_toRegister 65 = .ok (.invokevirtual 55, 3) := by decide +kernel
theorem dX2_toRegister_68 : decode cX2_toRegister 68 = .ok (.iload_n 2, 1) := by decide +kernel
theorem dX2_toRegister_69 : decode cX2_toRegister 69 = .ok (.iconst 1, 1) := by decide +kernel
theorem dX2_toRegister_70 : decode cX2_toRegister 70 = .ok (.if_icmp .ne 23, 3) := by decide +kernel
theorem dX2_toRegister_73 : decode cX2_toRegister 73 = .ok (.aload_n 0, 1) := by decide +kernel
theorem dX2_toRegister_74 : decode cX2_toRegister 74 = .ok (.getfield 7, 3) := by decide +kernel
theorem dX2_toRegister_77 : decode cX2_toRegister 77 = .ok (.bipush 30, 2) := by decide +kernel
theorem dX2_toRegister_79 : decode cX2_toRegister 79 = .ok (.aload_n 0, 1) := by decide +kernel
theorem dX2_toRegister_80 : decode cX2_toRegister 80 = .ok (.getfield 7, 3) := by decide +kernel
theorem dX2_toRegister_83 : decode cX2_toRegister 83 = .ok (.invokevirtual 15, 3) := by decide +kernel
theorem dX2_toRegister_86 : decode cX2_toRegister 86 = .ok (.ldc2_w 19, 3) := by decide +kernel
theorem dX2_toRegister_89 : decode cX2_toRegister 89 = .ok (.ladd, 1) := by decide +kernel
theorem dX2_toRegister_90 : decode cX2_toRegister 90 = .ok (.invokevirtual 21, 3) := by decide +kernel
theorem dX2_toRegister_93 : decode cX2_toRegister 93 = .ok (.iconst 1, 1) := by decide +kernel
theorem dX2_toRegister_94 : decode cX2_toRegister 94 = .ok (.ireturn, 1) := by decide +kernel
def F_X2_toRegister_c93 (τ : XS) (a0 : Int32) : Bool × XS := (true, τ)
def F_X2_toRegister_c68 (τ : XS) (a0 : Int32) (w2 : Int32) : Bool × XS := (if w2 = (1 : Int32) then (F_X2_toRegister_c93 (F_X8_putRegister τ (30 : Int32) ((F_X8_pc τ) + (4 : Int64))) a0) else (true, τ))
def F_X2_toRegister_c8 (τ : XS) (a0 : Int32) (w2 : Int32) : Bool × XS := (if (j_iushr a0 (23 : Int32)) = (428 : Int32) then (if w2 = (3 : Int32) then (false, τ) else (if (F_X1_field a0 (10 : Int32) (11 : Int32)) = (1984 : Int32) then (if (F_X1_field a0 (0 : Int32) (5 : Int32)) = 0 then (F_X2_toRegister_c68 (F_X8_goTo τ (F_X8_register τ (F_X1_field a0 (5 : Int32) (5 : Int32)))) a0 w2) else (false, τ)) else (false, τ))) else (false, τ))
def F_X2_toRegister (σ : XS) (a0 : Int32) : Bool × XS := (F_X2_toRegister_c8 σ a0 (F_X1_field a0 (21 : Int32) (2 : Int32)))
set_option maxHeartbeats 4000000 in
set_option maxRecDepth 100000 in
theorem c_X2_toRegister (l : Launch) (z : Cx) (r : Nat → Nat) (σ : XS) (a0 : Int32) (sz : Nat) (res : Bool × XS) (hf : F_X2_toRegister σ a0 = res) : Met l yX2_toRegister (wsC yX2_toRegister cX2_toRegister 3 (some .boolean)) { frames := 2, cells := 0, slots := 0, locals := 46 } (mPc z (xW z r σ) sz [.ref (r 11), .int a0]) (gM z (va_A (xW z r σ) sz) (some (.int (zB res.1))) (xW z r res.2)) 0 0 (va_A (xW z r σ) sz) := by
  refine mk_m_z (own := RX2) (wf := xW z r) (by decide) rfl sz _ (Nat.le_of_ble_eq_true rfl) (fun p e s m below meth c A H locs Q ls S hK hA hP hD hS hl hend => ?_)
  have hx := S.1
  have hb := S.2.1
  have hown := S.2.2.2.1
  have hts := S.2.2.2.2
  have hl : lv_has ls 3 [(0, .ref (r 11)), (1, .int a0)] := hl
  have J_c93 : ∀ (τ : XS) (H : Heap) (locs : List Loc) (ls : Array Slot), F_X2_toRegister_c93 τ a0 = res → va_P z.1 vwCl (xW z r τ) H → va_D A (xW z r τ) → va_S A s.heap H locs → lv_has ls 3 [] → W p l e { frames := 2, cells := 0, slots := 0, locals := 46 } s m ([.ref (r 11), .int a0] : List Value).toArray below meth c H locs 0 0 Q (F0 m 93 ls []) := by
    intro τ H locs ls hf hP hD hS hl
    unfold F_X2_toRegister_c93 at hf
    refine lv_iconst (v := 1) hx hb dX2_toRegister_93 (by decide) ?_
    exact hend true τ H locs 94 ls hf hP hD hS dX2_toRegister_94
  have J_c68 : ∀ (τ : XS) (w2 : Int32) (H : Heap) (locs : List Loc) (ls : Array Slot), F_X2_toRegister_c68 τ a0 w2 = res → va_P z.1 vwCl (xW z r τ) H → va_D A (xW z r τ) → va_S A s.heap H locs → lv_has ls 3 [(0, .ref (r 11)), (2, .int w2)] → W p l e { frames := 2, cells := 0, slots := 0, locals := 46 } s m ([.ref (r 11), .int a0] : List Value).toArray below meth c H locs 0 0 Q (F0 m 68 ls []) := by
    intro τ w2 H locs ls hf hP hD hS hl
    unfold F_X2_toRegister_c68 at hf
    refine lv_iload_n hx hb dX2_toRegister_68 rfl (lv_at hl 1 rfl) ?_
    refine lv_iconst (v := 1) hx hb dX2_toRegister_69 (by decide) ?_
    refine lv_icmp_ne (tgt := 93) hx hb dX2_toRegister_70 (by decide) (fun c_70 => ?_) (fun c_70 => ?_)
    · rw [if_neg c_70] at hf
      refine lv_iconst (v := 1) hx hb dX2_toRegister_93 (by decide) ?_
      exact hend true τ H locs 94 ls hf hP hD hS dX2_toRegister_94
    · rw [if_pos c_70] at hf
      refine lv_aload_n hx hb dX2_toRegister_73 rfl (lv_at hl 0 rfl) ?_
      refine fg_X2_state S hK hP tf_X2_7 dX2_toRegister_74 ?_
      refine lv_bipush (v := 30) hx hb dX2_toRegister_77 (by decide) ?_
      refine lv_aload_n hx hb dX2_toRegister_79 rfl (lv_at hl 0 rfl) ?_
      refine fg_X2_state S hK hP tf_X2_7 dX2_toRegister_80 ?_
      refine k_X8_pc S hK hP tl_X2_15 ⟨Nat.le_of_ble_eq_true rfl, Nat.le_of_ble_eq_true rfl⟩ hl.1 (Nat.le_of_ble_eq_true rfl) dX2_toRegister_83 ?_
      refine lv_ldc2 (v := 4) hx hb hown (hts _ tk_X2_19) dX2_toRegister_86 ?_
      refine lv_ladd hx hb dX2_toRegister_89 ?_
      refine k_X8_putRegister (a0 := (30 : Int32)) (a1 := ((F_X8_pc τ) + (4 : Int64))) S hK hA hP hD hS tl_X2_21 ⟨Nat.le_of_ble_eq_true rfl, Nat.le_of_ble_eq_true rfl⟩ hl.1 (Nat.le_of_ble_eq_true rfl) dX2_toRegister_90 (fun H locs hP hD hS => ?_)
      exact J_c93 (F_X8_putRegister τ (30 : Int32) ((F_X8_pc τ) + (4 : Int64))) H locs ls hf hP hD hS (lv_sub hl [] rfl)
  have J_c8 : ∀ (τ : XS) (w2 : Int32) (H : Heap) (locs : List Loc) (ls : Array Slot), F_X2_toRegister_c8 τ a0 w2 = res → va_P z.1 vwCl (xW z r τ) H → va_D A (xW z r τ) → va_S A s.heap H locs → lv_has ls 3 [(0, .ref (r 11)), (1, .int a0), (2, .int w2)] → W p l e { frames := 2, cells := 0, slots := 0, locals := 46 } s m ([.ref (r 11), .int a0] : List Value).toArray below meth c H locs 0 0 Q (F0 m 8 ls []) := by
    intro τ w2 H locs ls hf hP hD hS hl
    unfold F_X2_toRegister_c8 at hf
    refine lv_iload_n hx hb dX2_toRegister_8 rfl (lv_at hl 1 rfl) ?_
    refine lv_bipush (v := 23) hx hb dX2_toRegister_9 (by decide) ?_
    refine lv_iushr (v := (j_iushr a0 (23 : Int32))) hx hb dX2_toRegister_11 rfl ?_
    refine lv_sipush (v := 428) hx hb dX2_toRegister_12 (by decide) ?_
    refine lv_icmp_ne (tgt := 46) hx hb dX2_toRegister_15 (by decide) (fun c_15 => ?_) (fun c_15 => ?_)
    · rw [if_neg c_15] at hf
      refine lv_iconst (v := 0) hx hb dX2_toRegister_46 (by decide) ?_
      exact hend false τ H locs 47 ls hf hP hD hS dX2_toRegister_47
    · rw [if_pos c_15] at hf
      refine lv_iload_n hx hb dX2_toRegister_18 rfl (lv_at hl 2 rfl) ?_
      refine lv_iconst (v := 3) hx hb dX2_toRegister_19 (by decide) ?_
      refine lv_icmp_eq (tgt := 46) hx hb dX2_toRegister_20 (by decide) (fun c_20 => ?_) (fun c_20 => ?_)
      · rw [if_pos c_20] at hf
        refine lv_iconst (v := 0) hx hb dX2_toRegister_46 (by decide) ?_
        exact hend false τ H locs 47 ls hf hP hD hS dX2_toRegister_47
      · rw [if_neg c_20] at hf
        refine lv_iload_n hx hb dX2_toRegister_23 rfl (lv_at hl 1 rfl) ?_
        refine lv_bipush (v := 10) hx hb dX2_toRegister_24 (by decide) ?_
        refine lv_bipush (v := 11) hx hb dX2_toRegister_26 (by decide) ?_
        refine k_X1_field (a0 := a0) (a1 := (10 : Int32)) (a2 := (11 : Int32)) S tl_X2_39 ⟨Nat.le_of_ble_eq_true rfl, Nat.le_of_ble_eq_true rfl⟩ hl.1 (Nat.le_of_ble_eq_true rfl) dX2_toRegister_28 ?_
        refine lv_sipush (v := 1984) hx hb dX2_toRegister_31 (by decide) ?_
        refine lv_icmp_ne (tgt := 46) hx hb dX2_toRegister_34 (by decide) (fun c_34 => ?_) (fun c_34 => ?_)
        · rw [if_neg c_34] at hf
          refine lv_iconst (v := 0) hx hb dX2_toRegister_46 (by decide) ?_
          exact hend false τ H locs 47 ls hf hP hD hS dX2_toRegister_47
        · rw [if_pos c_34] at hf
          refine lv_iload_n hx hb dX2_toRegister_37 rfl (lv_at hl 1 rfl) ?_
          refine lv_iconst (v := 0) hx hb dX2_toRegister_38 (by decide) ?_
          refine lv_iconst (v := 5) hx hb dX2_toRegister_39 (by decide) ?_
          refine k_X1_field (a0 := a0) (a1 := (0 : Int32)) (a2 := (5 : Int32)) S tl_X2_39 ⟨Nat.le_of_ble_eq_true rfl, Nat.le_of_ble_eq_true rfl⟩ hl.1 (Nat.le_of_ble_eq_true rfl) dX2_toRegister_40 ?_
          refine lv_if_eq (tgt := 48) hx hb dX2_toRegister_43 (by decide) (fun c_43 => ?_) (fun c_43 => ?_)
          · rw [if_pos c_43] at hf
            refine lv_aload_n hx hb dX2_toRegister_48 rfl (lv_at hl 0 rfl) ?_
            refine fg_X2_state S hK hP tf_X2_7 dX2_toRegister_49 ?_
            refine lv_aload_n hx hb dX2_toRegister_52 rfl (lv_at hl 0 rfl) ?_
            refine fg_X2_state S hK hP tf_X2_7 dX2_toRegister_53 ?_
            refine lv_iload_n hx hb dX2_toRegister_56 rfl (lv_at hl 1 rfl) ?_
            refine lv_iconst (v := 5) hx hb dX2_toRegister_57 (by decide) ?_
            refine lv_iconst (v := 5) hx hb dX2_toRegister_58 (by decide) ?_
            refine k_X1_field (a0 := a0) (a1 := (5 : Int32)) (a2 := (5 : Int32)) S tl_X2_39 ⟨Nat.le_of_ble_eq_true rfl, Nat.le_of_ble_eq_true rfl⟩ hl.1 (Nat.le_of_ble_eq_true rfl) dX2_toRegister_59 ?_
            refine k_X8_register (a0 := (F_X1_field a0 (5 : Int32) (5 : Int32))) S hK hP tl_X2_47 ⟨Nat.le_of_ble_eq_true rfl, Nat.le_of_ble_eq_true rfl⟩ hl.1 (Nat.le_of_ble_eq_true rfl) dX2_toRegister_62 ?_
            refine k_X8_goTo (a0 := (F_X8_register τ (F_X1_field a0 (5 : Int32) (5 : Int32)))) S hK hA hP hD hS tl_X2_55 ⟨Nat.le_of_ble_eq_true rfl, Nat.le_of_ble_eq_true rfl⟩ hl.1 (Nat.le_of_ble_eq_true rfl) dX2_toRegister_65 (fun H locs hP hD hS => ?_)
            exact J_c68 (F_X8_goTo τ (F_X8_register τ (F_X1_field a0 (5 : Int32) (5 : Int32)))) w2 H locs ls hf hP hD hS (lv_sub hl [0, 2] rfl)
          · rw [if_neg c_43] at hf
            refine lv_iconst (v := 0) hx hb dX2_toRegister_46 (by decide) ?_
            exact hend false τ H locs 47 ls hf hP hD hS dX2_toRegister_47
  unfold F_X2_toRegister at hf
  refine lv_iload_n hx hb dX2_toRegister_0 rfl (lv_at hl 1 rfl) ?_
  refine lv_bipush (v := 21) hx hb dX2_toRegister_1 (by decide) ?_
  refine lv_iconst (v := 2) hx hb dX2_toRegister_3 (by decide) ?_
  refine k_X1_field (a0 := a0) (a1 := (21 : Int32)) (a2 := (2 : Int32)) S tl_X2_39 ⟨Nat.le_of_ble_eq_true rfl, Nat.le_of_ble_eq_true rfl⟩ hl.1 (Nat.le_of_ble_eq_true rfl) dX2_toRegister_4 ?_
  refine lv_istore_n (lv' := [(2, .int (F_X1_field a0 (21 : Int32) (2 : Int32))), (0, .ref (r 11)), (1, .int a0)]) hx hb dX2_toRegister_7 rfl hl (by decide) rfl (fun ls hl => ?_)
  exact J_c8 σ (F_X1_field a0 (21 : Int32) (2 : Int32)) H locs ls hf hP hD hS (lv_sub hl [1, 2, 0] rfl)
theorem k_X2_toRegister {p : Program} {l : Launch} {e : Env} {R : Room} {s : State} {m : MethodId} {args : Array Value} {below : List Frame} {meth : Method} {c : Code} {H : Heap} {locs : List Loc} {Q : State → Prop} {cc : ByteArray} {pc : Nat} {ls : Array Slot} {rest : List Value} {own : String} {index nL : Nat} {A : Nat → Prop} {z : Cx} {r : Nat → Nat} {σ : XS} {a0 : Int32} (S : CallFix p m c cc nL s args tbG own) (hK : va_K z.1 vwCl (cxT z) s) (hA : ∀ q, s.heap.size ≤ q → A q) (hP : va_P z.1 vwCl (xW z r σ) H) (hD : va_D A (xW z r σ)) (hS : va_S A s.heap H locs) (hl : Cond.methodLink own index yX2_toRegister ∈ tbG) (hR : 2 + 1 ≤ R.frames ∧ 8 + (3 + 11) + 46 ≤ R.locals) (hsz : ls.size = nL) (hcat : (rest.map fun v => v.category).sum ≤ 8) (hdg : decode cc pc = .ok (.invokevirtual index, 3)) (kk : ∀ (H : Heap) (locs : List Loc), va_P z.1 vwCl (xW z r (F_X2_toRegister σ a0).2) H → va_D A (xW z r (F_X2_toRegister σ a0).2) → va_S A s.heap H locs → W p l e R s m args below meth c H locs 0 0 Q (F0 m (pc + 3) ls (.int (zB (F_X2_toRegister σ a0).1) :: rest))) : W p l e R s m args below meth c H locs 0 0 Q (F0 m pc ls (.int a0 :: .ref (r 11) :: rest)) :=
  km (As := [.int a0]) (ov := some (.int (zB (F_X2_toRegister σ a0).1))) (w' := xW z r (F_X2_toRegister σ a0).2) (q0 := 11) (ci := 1) S hK hA hP hD hS (c_X2_toRegister l z r σ a0 H.size _ rfl) ⟨tb_cB 1 S.2.2.2.2 tc_X2_toRegister ti_X2 hl rfl rfl (by decide +kernel) hR, S.2.2.2.2 _ tm_X2_toRegister, S.2.2.2.2 _ te_X2_toRegister⟩ rfl rfl rfl rfl hsz rfl hcat hdg kk

theorem dX8_raiseBehind_0 : decode cX8_raiseBehind 0 = .ok (.aload_n 0, 1) := by decide +kernel
theorem dX8_raiseBehind_1 : decode cX8_raiseBehind 1 = .ok (.iload_n 1, 1) := by decide +kernel
theorem dX8_raiseBehind_2 : decode cX8_raiseBehind 2 = .ok (.iload_n 2, 1) := by decide +kernel
theorem dX8_raiseBehind_3 : decode cX8_raiseBehind 3 = .ok (.invokevirtual 49, 3) := by decide +kernel
theorem dX8_raiseBehind_6 : decode cX8_raiseBehind 6 = .ok (.aload_n 0, 1) := by decide +kernel
theorem dX8_raiseBehind_7 : decode cX8_raiseBehind 7 = .ok (.aload_n 0, 1) := by decide +kernel
theorem dX8_raiseBehind_8 : decode cX8_raiseBehind 8 = .ok (.getfield 9, 3) := by decide +kernel
theorem dX8_raiseBehind_11 : decode cX8_raiseBehind 11 = .ok (.bipush 33, 2) := by decide +kernel
theorem dX8_raiseBehind_13 : decode cX8_raiseBehind 13 = .ok (.laload, 1) := by decide +kernel
theorem dX8_raiseBehind_14 : decode cX8_raiseBehind 14 = .ok (.ldc2_w 29, 3) := by decide +kernel
theorem dX8_raiseBehind_17 : decode cX8_raiseBehind 17 = .ok (.ladd, 1) := by decide +kernel
theorem dX8_raiseBehind_18 : decode cX8_raiseBehind 18 = .ok (.iconst 0, 1) := by decide +kernel
theorem dX8_raiseBehind_19 : decode cX8_raiseBehind 19 = .ok (.invokevirtual 45, 3) := by decide +kernel
theorem dX8_raiseBehind_22 : decode cX8_raiseBehind 22 = .ok (.return_, 1) := by decide +kernel
def F_X8_raiseBehind_c22 (τ : XS) (a0 : Int32) (a1 : Int32) : XS := τ
def F_X8_raiseBehind (σ : XS) (a0 : Int32) (a1 : Int32) : XS := (F_X8_raiseBehind_c22 (F_X8_enter (F_X8_tell σ a0 a1) ((xP (F_X8_tell σ a0 a1) (33 : Int32).toNatClampNeg) + (4 : Int64)) (0 : Int32)) a0 a1)
set_option maxHeartbeats 4000000 in
set_option maxRecDepth 100000 in
theorem c_X8_raiseBehind (l : Launch) (z : Cx) (r : Nat → Nat) (σ : XS) (a0 : Int32) (a1 : Int32) (sz : Nat) (res : XS) (hf : F_X8_raiseBehind σ a0 a1 = res) : Met l yX8_raiseBehind (wsC yX8_raiseBehind cX8_raiseBehind 3 none) { frames := 1, cells := 0, slots := 0, locals := 27 } (mPc z (xW z r σ) sz [.ref (r 3), .int a0, .int a1]) (gM z (va_A (xW z r σ) sz) none (xW z r res)) 0 0 (va_A (xW z r σ) sz) := by
  refine mk_m_v (own := RX8) (wf := xW z r) (by decide) rfl sz _ (Nat.le_of_ble_eq_true rfl) (fun p e s m below meth c A H locs Q ls S hK hA hP hD hS hl hend => ?_)
  have hx := S.1
  have hb := S.2.1
  have hown := S.2.2.2.1
  have hts := S.2.2.2.2
  have hl : lv_has ls 3 [(0, .ref (r 3)), (1, .int a0), (2, .int a1)] := hl
  have J_c22 : ∀ (τ : XS) (H : Heap) (locs : List Loc) (ls : Array Slot), F_X8_raiseBehind_c22 τ a0 a1 = res → va_P z.1 vwCl (xW z r τ) H → va_D A (xW z r τ) → va_S A s.heap H locs → lv_has ls 3 [] → W p l e { frames := 1, cells := 0, slots := 0, locals := 27 } s m ([.ref (r 3), .int a0, .int a1] : List Value).toArray below meth c H locs 0 0 Q (F0 m 22 ls []) := by
    intro τ H locs ls hf hP hD hS hl
    unfold F_X8_raiseBehind_c22 at hf
    exact hend τ H locs 22 ls hf hP hD hS dX8_raiseBehind_22
  unfold F_X8_raiseBehind at hf
  refine lv_aload_n hx hb dX8_raiseBehind_0 rfl (lv_at hl 0 rfl) ?_
  refine lv_iload_n hx hb dX8_raiseBehind_1 rfl (lv_at hl 1 rfl) ?_
  refine lv_iload_n hx hb dX8_raiseBehind_2 rfl (lv_at hl 2 rfl) ?_
  refine k_X8_tell (a0 := a0) (a1 := a1) S hK hA hP hD hS tl_X8_49 ⟨Nat.le_of_ble_eq_true rfl, Nat.le_of_ble_eq_true rfl⟩ hl.1 (Nat.le_of_ble_eq_true rfl) dX8_raiseBehind_3 (fun H locs hP hD hS => ?_)
  refine lv_aload_n hx hb dX8_raiseBehind_6 rfl (lv_at hl 0 rfl) ?_
  refine lv_aload_n hx hb dX8_raiseBehind_7 rfl (lv_at hl 0 rfl) ?_
  refine fg_X8_parts S hK hP tf_X8_9 dX8_raiseBehind_8 ?_
  refine lv_bipush (v := 33) hx hb dX8_raiseBehind_11 (by decide) ?_
  refine al_xP S hK hP (show vp_in (33 : Int32) 46 by unfold vp_in; decide) dX8_raiseBehind_13 ?_
  refine lv_ldc2 (v := 4) hx hb hown (hts _ tk_X8_29) dX8_raiseBehind_14 ?_
  refine lv_ladd hx hb dX8_raiseBehind_17 ?_
  refine lv_iconst (v := 0) hx hb dX8_raiseBehind_18 (by decide) ?_
  refine k_X8_enter (a0 := ((xP (F_X8_tell σ a0 a1) (33 : Int32).toNatClampNeg) + (4 : Int64))) (a1 := (0 : Int32)) S hK hA hP hD hS tl_X8_45 ⟨Nat.le_of_ble_eq_true rfl, Nat.le_of_ble_eq_true rfl⟩ hl.1 (Nat.le_of_ble_eq_true rfl) dX8_raiseBehind_19 (fun H locs hP hD hS => ?_)
  exact J_c22 (F_X8_enter (F_X8_tell σ a0 a1) ((xP (F_X8_tell σ a0 a1) (33 : Int32).toNatClampNeg) + (4 : Int64)) (0 : Int32)) H locs ls hf hP hD hS (lv_sub hl [] rfl)
theorem k_X8_raiseBehind {p : Program} {l : Launch} {e : Env} {R : Room} {s : State} {m : MethodId} {args : Array Value} {below : List Frame} {meth : Method} {c : Code} {H : Heap} {locs : List Loc} {Q : State → Prop} {cc : ByteArray} {pc : Nat} {ls : Array Slot} {rest : List Value} {own : String} {index nL : Nat} {A : Nat → Prop} {z : Cx} {r : Nat → Nat} {σ : XS} {a0 : Int32} {a1 : Int32} (S : CallFix p m c cc nL s args tbG own) (hK : va_K z.1 vwCl (cxT z) s) (hA : ∀ q, s.heap.size ≤ q → A q) (hP : va_P z.1 vwCl (xW z r σ) H) (hD : va_D A (xW z r σ)) (hS : va_S A s.heap H locs) (hl : Cond.methodLink own index yX8_raiseBehind ∈ tbG) (hR : 1 + 1 ≤ R.frames ∧ 8 + (3 + 11) + 27 ≤ R.locals) (hsz : ls.size = nL) (hcat : (rest.map fun v => v.category).sum ≤ 8) (hdg : decode cc pc = .ok (.invokevirtual index, 3)) (kk : ∀ (H : Heap) (locs : List Loc), va_P z.1 vwCl (xW z r (F_X8_raiseBehind σ a0 a1)) H → va_D A (xW z r (F_X8_raiseBehind σ a0 a1)) → va_S A s.heap H locs → W p l e R s m args below meth c H locs 0 0 Q (F0 m (pc + 3) ls (rest))) : W p l e R s m args below meth c H locs 0 0 Q (F0 m pc ls (.int a1 :: .int a0 :: .ref (r 3) :: rest)) :=
  km (As := [.int a0, .int a1]) (ov := none) (w' := xW z r (F_X8_raiseBehind σ a0 a1)) (q0 := 3) (ci := 7) S hK hA hP hD hS (c_X8_raiseBehind l z r σ a0 a1 H.size _ rfl) ⟨tb_cB 2 S.2.2.2.2 tc_X8_raiseBehind ti_X8 hl rfl rfl (by decide +kernel) hR, S.2.2.2.2 _ tm_X8_raiseBehind, S.2.2.2.2 _ te_X8_raiseBehind⟩ rfl rfl rfl rfl hsz rfl hcat hdg kk

theorem dX3_call_0 : decode cX3_call 0 = .ok (.iload_n 1, 1) := by decide +kernel
theorem dX3_call_1 : decode cX3_call 1 = .ok (.bipush 21, 2) := by decide +kernel
theorem dX3_call_3 : decode cX3_call 3 = .ok (.iushr, 1) := by decide +kernel
theorem dX3_call_4 : decode cX3_call 4 = .ok (.istore_n 2, 1) := by decide +kernel
theorem dX3_call_5 : decode cX3_call 5 = .ok (.iload_n 1, 1) := by decide +kernel
theorem dX3_call_6 : decode cX3_call 6 = .ok (.iconst 0, 1) := by decide +kernel
theorem dX3_call_7 : decode cX3_call 7 = .ok (.iconst 5, 1) := by decide +kernel
theorem dX3_call_8 : decode cX3_call 8 = .ok (.invokestatic 15, 3) := by decide +kernel
theorem dX3_call_11 : decode cX3_call 11 = .ok (.istore_n 3, 1) := by decide +kernel
theorem dX3_call_12 : decode cX3_call 12 = .ok (.iload_n 1, 1) := by decide +kernel
theorem dX3_call_13 : decode cX3_call 13 = .ok (.iconst 5, 1) := by decide +kernel
theorem dX3_call_14 : decode cX3_call 14 = .ok (.bipush 16, 2) := by decide +kernel
theorem dX3_call_16 : decode cX3_call 16 = .ok (.invokestatic 15, 3) := by decide +kernel
theorem dX3_call_19 : decode cX3_call 19 = .ok (.istore 4, 2) := by decide +kernel
theorem dX3_call_21 : decode cX3_call 21 = .ok (.iload_n 2, 1) := by decide +kernel
theorem dX3_call_22 : decode cX3_call 22 = .ok (.sipush 1696, 3) := by decide +kernel
theorem dX3_call_25 : decode cX3_call 25 = .ok (.if_icmp .ne 21, 3) := by decide +kernel
theorem dX3_call_28 : decode cX3_call 28 = .ok (.iload_n 3, 1) := by decide +kernel
theorem dX3_call_29 : decode cX3_call 29 = .ok (.iconst 1, 1) := by decide +kernel
theorem dX3_call_30 : decode cX3_call 30 = .ok (.if_icmp .ne 16, 3) := by decide +kernel
theorem dX3_call_33 : decode cX3_call 33 = .ok (.aload_n 0, 1) := by decide +kernel
theorem dX3_call_34 : decode cX3_call 34 = .ok (.getfield 9, 3) := by decide +kernel
theorem dX3_call_37 : decode cX3_call 37 = .ok (.bipush 21, 2) := by decide +kernel
theorem dX3_call_39 : decode cX3_call 39 = .ok (.iload 4, 2) := by decide +kernel
theorem dX3_call_41 : decode cX3_call 41 = .ok (.invokevirtual 21, 3) := by decide +kernel
theorem dX3_call_44 : decode cX3_call 44 = .ok (.iconst 1, 1) := by decide +kernel
theorem dX3_call_45 : decode cX3_call 45 = .ok (.ireturn, 1) := by decide +kernel
theorem dX3_call_46 : decode cX3_call 46 = .ok (.iload_n 2, 1) := by decide +kernel
theorem dX3_call_47 : decode cX3_call 47 = .ok (.sipush 1697, 3) := by decide +kernel
theorem dX3_call_50 : decode cX3_call 50 = .ok (.if_icmp .ne 20, 3) := by decide +kernel
theorem dX3_call_53 : decode cX3_call 53 = .ok (.iload_n 3, 1) := by decide +kernel
theorem dX3_call_54 : decode cX3_call 54 = .ok (.ifCond .ne 16, 3) := by decide +kernel
theorem dX3_call_57 : decode cX3_call 57 = .ok (.aload_n 0, 1) := by decide +kernel
theorem dX3_call_58 : decode cX3_call 58 = .ok (.getfield 9, 3) := by decide +kernel
theorem dX3_call_61 : decode cX3_call 61 = .ok (.bipush 60, 2) := by decide +kernel
theorem dX3_call_63 : decode cX3_call 63 = .ok (.iload 4, 2) := by decide +kernel
theorem dX3_call_65 : decode cX3_call 65 = .ok (.invokevirtual 27, 3) := by decide +kernel
theorem dX3_call_68 : decode cX3_call 68 = .ok (.iconst 1, 1) := by decide +kernel
theorem dX3_call_69 : decode cX3_call 69 = .ok (.ireturn, 1) := by decide +kernel
theorem dX3_call_70 : decode cX3_call 70 = .ok (.iconst 0, 1) := by decide +kernel
theorem dX3_call_71 : decode cX3_call 71 = .ok (.ireturn, 1) := by decide +kernel
def F_X3_call_c46 (τ : XS) (a0 : Int32) (w2 : Int32) (w3 : Int32) (w4 : Int32) : Bool × XS := (if w2 = (1697 : Int32) then (if w3 = 0 then (true, (F_X8_raise τ (60 : Int32) w4)) else (false, τ)) else (false, τ))
def F_X3_call_c21 (τ : XS) (a0 : Int32) (w2 : Int32) (w3 : Int32) (w4 : Int32) : Bool × XS := (if w2 = (1696 : Int32) then (if w3 = (1 : Int32) then (true, (F_X8_raiseBehind τ (21 : Int32) w4)) else (F_X3_call_c46 τ a0 w2 w3 w4)) else (F_X3_call_c46 τ a0 w2 w3 w4))
def F_X3_call_c12 (τ : XS) (a0 : Int32) (w2 : Int32) (w3 : Int32) : Bool × XS := (F_X3_call_c21 τ a0 w2 w3 (F_X1_field a0 (5 : Int32) (16 : Int32)))
def F_X3_call_c5 (τ : XS) (a0 : Int32) (w2 : Int32) : Bool × XS := (F_X3_call_c12 τ a0 w2 (F_X1_field a0 (0 : Int32) (5 : Int32)))
def F_X3_call (σ : XS) (a0 : Int32) : Bool × XS := (F_X3_call_c5 σ a0 (j_iushr a0 (21 : Int32)))
set_option maxHeartbeats 4000000 in
set_option maxRecDepth 100000 in
theorem c_X3_call (l : Launch) (z : Cx) (r : Nat → Nat) (σ : XS) (a0 : Int32) (sz : Nat) (res : Bool × XS) (hf : F_X3_call σ a0 = res) : Met l yX3_call (wsC yX3_call cX3_call 5 (some .boolean)) { frames := 2, cells := 0, slots := 0, locals := 49 } (mPc z (xW z r σ) sz [.ref (r 12), .int a0]) (gM z (va_A (xW z r σ) sz) (some (.int (zB res.1))) (xW z r res.2)) 0 0 (va_A (xW z r σ) sz) := by
  refine mk_m_z (own := RX3) (wf := xW z r) (by decide) rfl sz _ (Nat.le_of_ble_eq_true rfl) (fun p e s m below meth c A H locs Q ls S hK hA hP hD hS hl hend => ?_)
  have hx := S.1
  have hb := S.2.1
  have hown := S.2.2.2.1
  have hts := S.2.2.2.2
  have hl : lv_has ls 5 [(0, .ref (r 12)), (1, .int a0)] := hl
  have J_c46 : ∀ (τ : XS) (w2 : Int32) (w3 : Int32) (w4 : Int32) (H : Heap) (locs : List Loc) (ls : Array Slot), F_X3_call_c46 τ a0 w2 w3 w4 = res → va_P z.1 vwCl (xW z r τ) H → va_D A (xW z r τ) → va_S A s.heap H locs → lv_has ls 5 [(0, .ref (r 12)), (2, .int w2), (3, .int w3), (4, .int w4)] → W p l e { frames := 2, cells := 0, slots := 0, locals := 49 } s m ([.ref (r 12), .int a0] : List Value).toArray below meth c H locs 0 0 Q (F0 m 46 ls []) := by
    intro τ w2 w3 w4 H locs ls hf hP hD hS hl
    unfold F_X3_call_c46 at hf
    refine lv_iload_n hx hb dX3_call_46 rfl (lv_at hl 1 rfl) ?_
    refine lv_sipush (v := 1697) hx hb dX3_call_47 (by decide) ?_
    refine lv_icmp_ne (tgt := 70) hx hb dX3_call_50 (by decide) (fun c_50 => ?_) (fun c_50 => ?_)
    · rw [if_neg c_50] at hf
      refine lv_iconst (v := 0) hx hb dX3_call_70 (by decide) ?_
      exact hend false τ H locs 71 ls hf hP hD hS dX3_call_71
    · rw [if_pos c_50] at hf
      refine lv_iload_n hx hb dX3_call_53 rfl (lv_at hl 2 rfl) ?_
      refine lv_if_ne (tgt := 70) hx hb dX3_call_54 (by decide) (fun c_54 => ?_) (fun c_54 => ?_)
      · rw [if_neg c_54] at hf
        refine lv_iconst (v := 0) hx hb dX3_call_70 (by decide) ?_
        exact hend false τ H locs 71 ls hf hP hD hS dX3_call_71
      · rw [if_pos c_54] at hf
        refine lv_aload_n hx hb dX3_call_57 rfl (lv_at hl 0 rfl) ?_
        refine fg_X3_state S hK hP tf_X3_9 dX3_call_58 ?_
        refine lv_bipush (v := 60) hx hb dX3_call_61 (by decide) ?_
        refine lv_iload hx hb dX3_call_63 (lv_at hl 3 rfl) ?_
        refine k_X8_raise (a0 := (60 : Int32)) (a1 := w4) S hK hA hP hD hS tl_X3_27 ⟨Nat.le_of_ble_eq_true rfl, Nat.le_of_ble_eq_true rfl⟩ hl.1 (Nat.le_of_ble_eq_true rfl) dX3_call_65 (fun H locs hP hD hS => ?_)
        refine lv_iconst (v := 1) hx hb dX3_call_68 (by decide) ?_
        exact hend true (F_X8_raise τ (60 : Int32) w4) H locs 69 ls hf hP hD hS dX3_call_69
  have J_c21 : ∀ (τ : XS) (w2 : Int32) (w3 : Int32) (w4 : Int32) (H : Heap) (locs : List Loc) (ls : Array Slot), F_X3_call_c21 τ a0 w2 w3 w4 = res → va_P z.1 vwCl (xW z r τ) H → va_D A (xW z r τ) → va_S A s.heap H locs → lv_has ls 5 [(0, .ref (r 12)), (2, .int w2), (3, .int w3), (4, .int w4)] → W p l e { frames := 2, cells := 0, slots := 0, locals := 49 } s m ([.ref (r 12), .int a0] : List Value).toArray below meth c H locs 0 0 Q (F0 m 21 ls []) := by
    intro τ w2 w3 w4 H locs ls hf hP hD hS hl
    unfold F_X3_call_c21 at hf
    refine lv_iload_n hx hb dX3_call_21 rfl (lv_at hl 1 rfl) ?_
    refine lv_sipush (v := 1696) hx hb dX3_call_22 (by decide) ?_
    refine lv_icmp_ne (tgt := 46) hx hb dX3_call_25 (by decide) (fun c_25 => ?_) (fun c_25 => ?_)
    · rw [if_neg c_25] at hf
      exact J_c46 τ w2 w3 w4 H locs ls hf hP hD hS (lv_sub hl [0, 1, 2, 3] rfl)
    · rw [if_pos c_25] at hf
      refine lv_iload_n hx hb dX3_call_28 rfl (lv_at hl 2 rfl) ?_
      refine lv_iconst (v := 1) hx hb dX3_call_29 (by decide) ?_
      refine lv_icmp_ne (tgt := 46) hx hb dX3_call_30 (by decide) (fun c_30 => ?_) (fun c_30 => ?_)
      · rw [if_neg c_30] at hf
        exact J_c46 τ w2 w3 w4 H locs ls hf hP hD hS (lv_sub hl [0, 1, 2, 3] rfl)
      · rw [if_pos c_30] at hf
        refine lv_aload_n hx hb dX3_call_33 rfl (lv_at hl 0 rfl) ?_
        refine fg_X3_state S hK hP tf_X3_9 dX3_call_34 ?_
        refine lv_bipush (v := 21) hx hb dX3_call_37 (by decide) ?_
        refine lv_iload hx hb dX3_call_39 (lv_at hl 3 rfl) ?_
        refine k_X8_raiseBehind (a0 := (21 : Int32)) (a1 := w4) S hK hA hP hD hS tl_X3_21 ⟨Nat.le_of_ble_eq_true rfl, Nat.le_of_ble_eq_true rfl⟩ hl.1 (Nat.le_of_ble_eq_true rfl) dX3_call_41 (fun H locs hP hD hS => ?_)
        refine lv_iconst (v := 1) hx hb dX3_call_44 (by decide) ?_
        exact hend true (F_X8_raiseBehind τ (21 : Int32) w4) H locs 45 ls hf hP hD hS dX3_call_45
  have J_c12 : ∀ (τ : XS) (w2 : Int32) (w3 : Int32) (H : Heap) (locs : List Loc) (ls : Array Slot), F_X3_call_c12 τ a0 w2 w3 = res → va_P z.1 vwCl (xW z r τ) H → va_D A (xW z r τ) → va_S A s.heap H locs → lv_has ls 5 [(0, .ref (r 12)), (1, .int a0), (2, .int w2), (3, .int w3)] → W p l e { frames := 2, cells := 0, slots := 0, locals := 49 } s m ([.ref (r 12), .int a0] : List Value).toArray below meth c H locs 0 0 Q (F0 m 12 ls []) := by
    intro τ w2 w3 H locs ls hf hP hD hS hl
    unfold F_X3_call_c12 at hf
    refine lv_iload_n hx hb dX3_call_12 rfl (lv_at hl 1 rfl) ?_
    refine lv_iconst (v := 5) hx hb dX3_call_13 (by decide) ?_
    refine lv_bipush (v := 16) hx hb dX3_call_14 (by decide) ?_
    refine k_X1_field (a0 := a0) (a1 := (5 : Int32)) (a2 := (16 : Int32)) S tl_X3_15 ⟨Nat.le_of_ble_eq_true rfl, Nat.le_of_ble_eq_true rfl⟩ hl.1 (Nat.le_of_ble_eq_true rfl) dX3_call_16 ?_
    refine lv_istore (lv' := [(4, .int (F_X1_field a0 (5 : Int32) (16 : Int32))), (0, .ref (r 12)), (1, .int a0), (2, .int w2), (3, .int w3)]) hx hb dX3_call_19 hl (by decide) rfl (fun ls hl => ?_)
    exact J_c21 τ w2 w3 (F_X1_field a0 (5 : Int32) (16 : Int32)) H locs ls hf hP hD hS (lv_sub hl [1, 3, 4, 0] rfl)
  have J_c5 : ∀ (τ : XS) (w2 : Int32) (H : Heap) (locs : List Loc) (ls : Array Slot), F_X3_call_c5 τ a0 w2 = res → va_P z.1 vwCl (xW z r τ) H → va_D A (xW z r τ) → va_S A s.heap H locs → lv_has ls 5 [(0, .ref (r 12)), (1, .int a0), (2, .int w2)] → W p l e { frames := 2, cells := 0, slots := 0, locals := 49 } s m ([.ref (r 12), .int a0] : List Value).toArray below meth c H locs 0 0 Q (F0 m 5 ls []) := by
    intro τ w2 H locs ls hf hP hD hS hl
    unfold F_X3_call_c5 at hf
    refine lv_iload_n hx hb dX3_call_5 rfl (lv_at hl 1 rfl) ?_
    refine lv_iconst (v := 0) hx hb dX3_call_6 (by decide) ?_
    refine lv_iconst (v := 5) hx hb dX3_call_7 (by decide) ?_
    refine k_X1_field (a0 := a0) (a1 := (0 : Int32)) (a2 := (5 : Int32)) S tl_X3_15 ⟨Nat.le_of_ble_eq_true rfl, Nat.le_of_ble_eq_true rfl⟩ hl.1 (Nat.le_of_ble_eq_true rfl) dX3_call_8 ?_
    refine lv_istore_n (lv' := [(3, .int (F_X1_field a0 (0 : Int32) (5 : Int32))), (0, .ref (r 12)), (1, .int a0), (2, .int w2)]) hx hb dX3_call_11 rfl hl (by decide) rfl (fun ls hl => ?_)
    exact J_c12 τ w2 (F_X1_field a0 (0 : Int32) (5 : Int32)) H locs ls hf hP hD hS (lv_sub hl [1, 2, 3, 0] rfl)
  unfold F_X3_call at hf
  refine lv_iload_n hx hb dX3_call_0 rfl (lv_at hl 1 rfl) ?_
  refine lv_bipush (v := 21) hx hb dX3_call_1 (by decide) ?_
  refine lv_iushr (v := (j_iushr a0 (21 : Int32))) hx hb dX3_call_3 rfl ?_
  refine lv_istore_n (lv' := [(2, .int (j_iushr a0 (21 : Int32))), (0, .ref (r 12)), (1, .int a0)]) hx hb dX3_call_4 rfl hl (by decide) rfl (fun ls hl => ?_)
  exact J_c5 σ (j_iushr a0 (21 : Int32)) H locs ls hf hP hD hS (lv_sub hl [1, 2, 0] rfl)
theorem k_X3_call {p : Program} {l : Launch} {e : Env} {R : Room} {s : State} {m : MethodId} {args : Array Value} {below : List Frame} {meth : Method} {c : Code} {H : Heap} {locs : List Loc} {Q : State → Prop} {cc : ByteArray} {pc : Nat} {ls : Array Slot} {rest : List Value} {own : String} {index nL : Nat} {A : Nat → Prop} {z : Cx} {r : Nat → Nat} {σ : XS} {a0 : Int32} (S : CallFix p m c cc nL s args tbG own) (hK : va_K z.1 vwCl (cxT z) s) (hA : ∀ q, s.heap.size ≤ q → A q) (hP : va_P z.1 vwCl (xW z r σ) H) (hD : va_D A (xW z r σ)) (hS : va_S A s.heap H locs) (hl : Cond.methodLink own index yX3_call ∈ tbG) (hR : 2 + 1 ≤ R.frames ∧ 8 + (5 + 11) + 49 ≤ R.locals) (hsz : ls.size = nL) (hcat : (rest.map fun v => v.category).sum ≤ 8) (hdg : decode cc pc = .ok (.invokevirtual index, 3)) (kk : ∀ (H : Heap) (locs : List Loc), va_P z.1 vwCl (xW z r (F_X3_call σ a0).2) H → va_D A (xW z r (F_X3_call σ a0).2) → va_S A s.heap H locs → W p l e R s m args below meth c H locs 0 0 Q (F0 m (pc + 3) ls (.int (zB (F_X3_call σ a0).1) :: rest))) : W p l e R s m args below meth c H locs 0 0 Q (F0 m pc ls (.int a0 :: .ref (r 12) :: rest)) :=
  km (As := [.int a0]) (ov := some (.int (zB (F_X3_call σ a0).1))) (w' := xW z r (F_X3_call σ a0).2) (q0 := 12) (ci := 2) S hK hA hP hD hS (c_X3_call l z r σ a0 H.size _ rfl) ⟨tb_cB 1 S.2.2.2.2 tc_X3_call ti_X3 hl rfl rfl (by decide +kernel) hR, S.2.2.2.2 _ tm_X3_call, S.2.2.2.2 _ te_X3_call⟩ rfl rfl rfl rfl hsz rfl hcat hdg kk

theorem dX3_nothing_0 : decode cX3_nothing 0 = .ok (.iload_n 1, 1) := by decide +kernel
theorem dX3_nothing_1 : decode cX3_nothing 1 = .ok (.bipush 12, 2) := by decide +kernel
theorem dX3_nothing_3 : decode cX3_nothing 3 = .ok (.iushr, 1) := by decide +kernel
theorem dX3_nothing_4 : decode cX3_nothing 4 = .ok (.istore_n 2, 1) := by decide +kernel
theorem dX3_nothing_5 : decode cX3_nothing 5 = .ok (.iload_n 2, 1) := by decide +kernel
theorem dX3_nothing_6 : decode cX3_nothing 6 = .ok (.ldc 30, 2) := by decide +kernel
theorem dX3_nothing_8 : decode cX3_nothing 8 = .ok (.if_icmp .eq 9, 3) := by decide +kernel
theorem dX3_nothing_11 : decode cX3_nothing 11 = .ok (.iload_n 2, 1) := by decide +kernel
theorem dX3_nothing_12 : decode cX3_nothing 12 = .ok (.ldc 31, 2) := by decide +kernel
theorem dX3_nothing_14 : decode cX3_nothing 14 = .ok (.if_icmp .ne 18, 3) := by decide +kernel
theorem dX3_nothing_17 : decode cX3_nothing 17 = .ok (.iload_n 1, 1) := by decide +kernel
theorem dX3_nothing_18 : decode cX3_nothing 18 = .ok (.iconst 0, 1) := by decide +kernel
theorem dX3_nothing_19 : decode cX3_nothing 19 = .ok (.iconst 5, 1) := by decide +kernel
theorem dX3_nothing_20 : decode cX3_nothing 20 = .ok (.invokestatic 15, 3) := by decide +kernel
theorem dX3_nothing_23 : decode cX3_nothing 23 = .ok (.bipush 31, 2) := by decide +kernel
theorem dX3_nothing_25 : decode cX3_nothing 25 = .ok (.if_icmp .ne 7, 3) := by decide +kernel
theorem dX3_nothing_28 : decode cX3_nothing 28 = .ok (.iconst 1, 1) := by decide +kernel
theorem dX3_nothing_29 : decode cX3_nothing 29 = .ok (.goto 4, 3) := by decide +kernel
theorem dX3_nothing_32 : decode cX3_nothing 32 = .ok (.iconst 0, 1) := by decide +kernel
theorem dX3_nothing_33 : decode cX3_nothing 33 = .ok (.ireturn, 1) := by decide +kernel
def F_X3_nothing_c17 (σ : XS) (a0 : Int32) : Bool := (if (F_X1_field a0 (0 : Int32) (5 : Int32)) = (31 : Int32) then true else false)
def F_X3_nothing_c5 (σ : XS) (a0 : Int32) (w2 : Int32) : Bool := (if w2 = (872498 : Int32) then (F_X3_nothing_c17 σ a0) else (if w2 = (872499 : Int32) then (F_X3_nothing_c17 σ a0) else false))
def F_X3_nothing (σ : XS) (a0 : Int32) : Bool := (F_X3_nothing_c5 σ a0 (j_iushr a0 (12 : Int32)))
set_option maxHeartbeats 4000000 in
set_option maxRecDepth 100000 in
theorem c_X3_nothing (l : Launch) (z : Cx) (r : Nat → Nat) (σ : XS) (a0 : Int32) (res : Bool) (hf : F_X3_nothing σ a0 = res) : Met l yX3_nothing (wsC yX3_nothing cX3_nothing 3 (some .boolean)) { frames := 1, cells := 0, slots := 0, locals := 22 } (rPc z (xW z r σ) [.ref (r 12), .int a0]) (gS (some (.int (zB res)))) 0 0 (fun _ => False) := by
  refine mk_r_z (own := RX3) (by decide) rfl _ (Nat.le_of_ble_eq_true rfl) (fun p e s m below meth c H locs Q ls S hK hP hl hend => ?_)
  have hx := S.1
  have hb := S.2.1
  have hown := S.2.2.2.1
  have hts := S.2.2.2.2
  have hl : lv_has ls 3 [(0, .ref (r 12)), (1, .int a0)] := hl
  have J_c17 : ∀ (ls : Array Slot), F_X3_nothing_c17 σ a0 = res → lv_has ls 3 [(1, .int a0)] → W p l e { frames := 1, cells := 0, slots := 0, locals := 22 } s m ([.ref (r 12), .int a0] : List Value).toArray below meth c H locs 0 0 Q (F0 m 17 ls []) := by
    intro ls hf hl
    unfold F_X3_nothing_c17 at hf
    refine lv_iload_n hx hb dX3_nothing_17 rfl (lv_at hl 0 rfl) ?_
    refine lv_iconst (v := 0) hx hb dX3_nothing_18 (by decide) ?_
    refine lv_iconst (v := 5) hx hb dX3_nothing_19 (by decide) ?_
    refine k_X1_field (a0 := a0) (a1 := (0 : Int32)) (a2 := (5 : Int32)) S tl_X3_15 ⟨Nat.le_of_ble_eq_true rfl, Nat.le_of_ble_eq_true rfl⟩ hl.1 (Nat.le_of_ble_eq_true rfl) dX3_nothing_20 ?_
    refine lv_bipush (v := 31) hx hb dX3_nothing_23 (by decide) ?_
    refine lv_icmp_ne (tgt := 32) hx hb dX3_nothing_25 (by decide) (fun c_25 => ?_) (fun c_25 => ?_)
    · rw [if_neg c_25] at hf
      refine lv_iconst (v := 0) hx hb dX3_nothing_32 (by decide) ?_
      exact hend false 33 ls hf dX3_nothing_33
    · rw [if_pos c_25] at hf
      refine lv_iconst (v := 1) hx hb dX3_nothing_28 (by decide) ?_
      refine lv_goto (tgt := 33) hx hb dX3_nothing_29 (by decide) ?_
      exact hend true 33 ls hf dX3_nothing_33
  have J_c5 : ∀ (w2 : Int32) (ls : Array Slot), F_X3_nothing_c5 σ a0 w2 = res → lv_has ls 3 [(1, .int a0), (2, .int w2)] → W p l e { frames := 1, cells := 0, slots := 0, locals := 22 } s m ([.ref (r 12), .int a0] : List Value).toArray below meth c H locs 0 0 Q (F0 m 5 ls []) := by
    intro w2 ls hf hl
    unfold F_X3_nothing_c5 at hf
    refine lv_iload_n hx hb dX3_nothing_5 rfl (lv_at hl 1 rfl) ?_
    refine lv_ldc (v := 872498) hx hb hown (hts _ tk_X3_30) dX3_nothing_6 ?_
    refine lv_icmp_eq (tgt := 17) hx hb dX3_nothing_8 (by decide) (fun c_8 => ?_) (fun c_8 => ?_)
    · rw [if_pos c_8] at hf
      exact J_c17 ls hf (lv_sub hl [0] rfl)
    · rw [if_neg c_8] at hf
      refine lv_iload_n hx hb dX3_nothing_11 rfl (lv_at hl 1 rfl) ?_
      refine lv_ldc (v := 872499) hx hb hown (hts _ tk_X3_31) dX3_nothing_12 ?_
      refine lv_icmp_ne (tgt := 32) hx hb dX3_nothing_14 (by decide) (fun c_14 => ?_) (fun c_14 => ?_)
      · rw [if_neg c_14] at hf
        refine lv_iconst (v := 0) hx hb dX3_nothing_32 (by decide) ?_
        exact hend false 33 ls hf dX3_nothing_33
      · rw [if_pos c_14] at hf
        exact J_c17 ls hf (lv_sub hl [0] rfl)
  unfold F_X3_nothing at hf
  refine lv_iload_n hx hb dX3_nothing_0 rfl (lv_at hl 1 rfl) ?_
  refine lv_bipush (v := 12) hx hb dX3_nothing_1 (by decide) ?_
  refine lv_iushr (v := (j_iushr a0 (12 : Int32))) hx hb dX3_nothing_3 rfl ?_
  refine lv_istore_n (lv' := [(2, .int (j_iushr a0 (12 : Int32))), (0, .ref (r 12)), (1, .int a0)]) hx hb dX3_nothing_4 rfl hl (by decide) rfl (fun ls hl => ?_)
  exact J_c5 (j_iushr a0 (12 : Int32)) ls hf (lv_sub hl [2, 0] rfl)
theorem k_X3_nothing {p : Program} {l : Launch} {e : Env} {R : Room} {s : State} {m : MethodId} {args : Array Value} {below : List Frame} {meth : Method} {c : Code} {H : Heap} {locs : List Loc} {Q : State → Prop} {cc : ByteArray} {pc : Nat} {ls : Array Slot} {rest : List Value} {own : String} {index nL : Nat} {z : Cx} {r : Nat → Nat} {σ : XS} {a0 : Int32} (S : CallFix p m c cc nL s args tbG own) (hK : va_K z.1 vwCl (cxT z) s) (hP : va_P z.1 vwCl (xW z r σ) H) (hl : Cond.methodLink own index yX3_nothing ∈ tbG) (hR : 1 + 1 ≤ R.frames ∧ 8 + (3 + 11) + 22 ≤ R.locals) (hsz : ls.size = nL) (hcat : (rest.map fun v => v.category).sum ≤ 8) (hdg : decode cc pc = .ok (.invokevirtual index, 3)) (kk : W p l e R s m args below meth c H locs 0 0 Q (F0 m (pc + 3) ls (.int (zB (F_X3_nothing σ a0)) :: rest))) : W p l e R s m args below meth c H locs 0 0 Q (F0 m pc ls (.int a0 :: .ref (r 12) :: rest)) :=
  kr (As := [.int a0]) (ov := some (.int (zB (F_X3_nothing σ a0)))) (q0 := 12) (ci := 2) S hK hP (c_X3_nothing l z r σ a0 _ rfl) ⟨tb_cB 1 S.2.2.2.2 tc_X3_nothing ti_X3 hl rfl rfl (by decide +kernel) hR, S.2.2.2.2 _ tm_X3_nothing, S.2.2.2.2 _ te_X3_nothing⟩ rfl rfl rfl rfl hsz rfl hcat hdg kk

theorem dX3_back_0 : decode cX3_back 0 = .ok (.iload_n 1, 1) := by decide +kernel
theorem dX3_back_1 : decode cX3_back 1 = .ok (.ldc 32, 2) := by decide +kernel
theorem dX3_back_3 : decode cX3_back 3 = .ok (.if_icmp .ne 13, 3) := by decide +kernel
theorem dX3_back_6 : decode cX3_back 6 = .ok (.aload_n 0, 1) := by decide +kernel
theorem dX3_back_7 : decode cX3_back 7 = .ok (.getfield 9, 3) := by decide +kernel
theorem dX3_back_10 : decode cX3_back 10 = .ok (.invokevirtual 33, 3) := by decide +kernel
theorem dX3_back_13 : decode cX3_back 13 = .ok (.ifCond .ne 5, 3) := by decide +kernel
theorem dX3_back_16 : decode cX3_back 16 = .ok (.iconst 0, 1) := by decide +kernel
theorem dX3_back_17 : decode cX3_back 17 = .ok (.ireturn, 1) := by decide +kernel
theorem dX3_back_18 : decode cX3_back 18 = .ok (.aload_n 0, 1) := by decide +kernel
theorem dX3_back_19 : decode cX3_back 19 = .ok (.getfield 9, 3) := by decide +kernel
theorem dX3_back_22 : decode cX3_back 22 = .ok (.bipush 38, 2) := by decide +kernel
theorem dX3_back_24 : decode cX3_back 24 = .ok (.invokevirtual 37, 3) := by decide +kernel
theorem dX3_back_27 : decode cX3_back 27 = .ok (.lstore_n 2, 1) := by decide +kernel
theorem dX3_back_28 : decode cX3_back 28 = .ok (.lload_n 2, 1) := by decide +kernel
theorem dX3_back_29 : decode cX3_back 29 = .ok (.l2i, 1) := by decide +kernel
theorem dX3_back_30 : decode cX3_back 30 = .ok (.bipush 15, 2) := by decide +kernel
theorem dX3_back_32 : decode cX3_back 32 = .ok (.iand, 1) := by decide +kernel
theorem dX3_back_33 : decode cX3_back 33 = .ok (.istore 4, 2) := by decide +kernel
theorem dX3_back_35 : decode cX3_back 35 = .ok (.iload 4, 2) := by decide +kernel
theorem dX3_back_37 : decode cX3_back 37 = .ok (.ifCond .eq 27, 3) := by decide +kernel
theorem dX3_back_40 : decode cX3_back 40 = .ok (.iload 4, 2) := by decide +kernel
theorem dX3_back_42 : decode cX3_back 42 = .ok (.iconst 4, 1) := by decide +kernel
theorem dX3_back_43 : decode cX3_back 43 = .ok (.if_icmp .eq 21, 3) := by decide +kernel
theorem dX3_back_46 : decode cX3_back 46 = .ok (.iload 4, 2) := by decide +kernel
theorem dX3_back_48 : decode cX3_back 48 = .ok (.iconst 5, 1) := by decide +kernel
theorem dX3_back_49 : decode cX3_back 49 = .ok (.if_icmp .eq 15, 3) := by decide +kernel
theorem dX3_back_52 : decode cX3_back 52 = .ok (.aload_n 0, 1) := by decide +kernel
theorem dX3_back_53 : decode cX3_back 53 = .ok (.getfield 9, 3) := by decide +kernel
theorem dX3_back_56 : decode cX3_back 56 = .ok (.bipush 14, 2) := by decide +kernel
theorem dX3_back_58 : decode cX3_back 58 = .ok (.iconst 0, 1) := by decide +kernel
theorem dX3_back_59 : decode cX3_back 59 = .ok (.invokevirtual 27, 3) := by decide +kernel
theorem dX3_back_62 : decode cX3_back 62 = .ok (.iconst 1, 1) := by decide +kernel
theorem dX3_back_63 : decode cX3_back 63 = .ok (.ireturn, 1) := by decide +kernel
theorem dX3_back_64 : decode cX3_back 64 = .ok (.aload_n 0, 1) := by decide +kernel
theorem dX3_back_65 : decode cX3_back 65 = .ok (.getfield 9, 3) := by decide +kernel
theorem dX3_back_68 : decode cX3_back 68 = .ok (.aload_n 0, 1) := by decide +kernel
theorem dX3_back_69 : decode cX3_back 69 = .ok (.getfield 9, 3) := by decide +kernel
theorem dX3_back_72 : decode cX3_back 72 = .ok (.bipush 37, 2) := by decide +kernel
theorem dX3_back_74 : decode cX3_back 74 = .ok (.invokevirtual 37, 3) := by decide +kernel
theorem dX3_back_77 : decode cX3_back 77 = .ok (.invokevirtual 41, 3) := by decide +kernel
theorem dX3_back_80 : decode cX3_back 80 = .ok (.aload_n 0, 1) := by decide +kernel
theorem dX3_back_81 : decode cX3_back 81 = .ok (.getfield 9, 3) := by decide +kernel
theorem dX3_back_84 : decode cX3_back 84 = .ok (.bipush 42, 2) := by decide +kernel
theorem dX3_back_86 : decode cX3_back 86 = .ok (.lload_n 2, 1) := by decide +kernel
theorem dX3_back_87 : decode cX3_back 87 = .ok (.bipush 28, 2) := by decide +kernel
theorem dX3_back_89 : decode cX3_back 89 = .ok (.lushr, 1) := by decide +kernel
theorem dX3_back_90 : decode cX3_back 90 = .ok (.invokevirtual 45, 3) := by decide +kernel
theorem dX3_back_93 : decode cX3_back 93 = .ok (.pop, 1) := by decide +kernel
theorem dX3_back_94 : decode cX3_back 94 = .ok (.aload_n 0, 1) := by decide +kernel
theorem dX3_back_95 : decode cX3_back 95 = .ok (.getfield 9, 3) := by decide +kernel
theorem dX3_back_98 : decode cX3_back 98 = .ok (.bipush 45, 2) := by decide +kernel
theorem dX3_back_100 : decode cX3_back 100 = .ok (.lload_n 2, 1) := by decide +kernel
theorem dX3_back_101 : decode cX3_back 101 = .ok (.bipush 7, 2) := by decide +kernel
theorem dX3_back_103 : decode cX3_back 103 = .ok (.lushr, 1) := by decide +kernel
theorem dX3_back_104 : decode cX3_back 104 = .ok (.invokevirtual 45, 3) := by decide +kernel
theorem dX3_back_107 : decode cX3_back 107 = .ok (.pop, 1) := by decide +kernel
theorem dX3_back_108 : decode cX3_back 108 = .ok (.aload_n 0, 1) := by decide +kernel
theorem dX3_back_109 : decode cX3_back 109 = .ok (.getfield 9, 3) := by decide +kernel
theorem dX3_back_112 : decode cX3_back 112 = .ok (.bipush 43, 2) := by decide +kernel
theorem dX3_back_114 : decode cX3_back 114 = .ok (.iload 4, 2) := by decide +kernel
theorem dX3_back_116 : decode cX3_back 116 = .ok (.iconst 2, 1) := by decide +kernel
theorem dX3_back_117 : decode cX3_back 117 = .ok (.iushr, 1) := by decide +kernel
theorem dX3_back_118 : decode cX3_back 118 = .ok (.i2l, 1) := by decide +kernel
theorem dX3_back_119 : decode cX3_back 119 = .ok (.invokevirtual 45, 3) := by decide +kernel
theorem dX3_back_122 : decode cX3_back 122 = .ok (.pop, 1) := by decide +kernel
theorem dX3_back_123 : decode cX3_back 123 = .ok (.aload_n 0, 1) := by decide +kernel
theorem dX3_back_124 : decode cX3_back 124 = .ok (.getfield 9, 3) := by decide +kernel
theorem dX3_back_127 : decode cX3_back 127 = .ok (.bipush 44, 2) := by decide +kernel
theorem dX3_back_129 : decode cX3_back 129 = .ok (.iload 4, 2) := by decide +kernel
theorem dX3_back_131 : decode cX3_back 131 = .ok (.i2l, 1) := by decide +kernel
theorem dX3_back_132 : decode cX3_back 132 = .ok (.invokevirtual 45, 3) := by decide +kernel
theorem dX3_back_135 : decode cX3_back 135 = .ok (.pop, 1) := by decide +kernel
theorem dX3_back_136 : decode cX3_back 136 = .ok (.iconst 1, 1) := by decide +kernel
theorem dX3_back_137 : decode cX3_back 137 = .ok (.ireturn, 1) := by decide +kernel
def F_X3_back_c122 (τ : XS) (a0 : Int32) (w4 : Int32) (s0 : Bool) : Bool × XS := (true, (F_X8_putPart τ (44 : Int32) w4.toInt64).2)
def F_X3_back_c107 (τ : XS) (a0 : Int32) (w4 : Int32) (s0 : Bool) : Bool × XS := (F_X3_back_c122 (F_X8_putPart τ (43 : Int32) (j_iushr w4 (2 : Int32)).toInt64).2 a0 w4 (F_X8_putPart τ (43 : Int32) (j_iushr w4 (2 : Int32)).toInt64).1)
def F_X3_back_c93 (τ : XS) (a0 : Int32) (w2 : Int64) (w4 : Int32) (s0 : Bool) : Bool × XS := (F_X3_back_c107 (F_X8_putPart τ (45 : Int32) (j_lushr w2 (7 : Int32))).2 a0 w4 (F_X8_putPart τ (45 : Int32) (j_lushr w2 (7 : Int32))).1)
def F_X3_back_c64 (τ : XS) (a0 : Int32) (w2 : Int64) (w4 : Int32) : Bool × XS := (F_X3_back_c93 (F_X8_putPart (F_X8_goTo τ (F_X8_part τ (37 : Int32))) (42 : Int32) (j_lushr w2 (28 : Int32))).2 a0 w2 w4 (F_X8_putPart (F_X8_goTo τ (F_X8_part τ (37 : Int32))) (42 : Int32) (j_lushr w2 (28 : Int32))).1)
def F_X3_back_c35 (τ : XS) (a0 : Int32) (w2 : Int64) (w4 : Int32) : Bool × XS := (if w4 = 0 then (F_X3_back_c64 τ a0 w2 w4) else (if w4 = (4 : Int32) then (F_X3_back_c64 τ a0 w2 w4) else (if w4 = (5 : Int32) then (F_X3_back_c64 τ a0 w2 w4) else (true, (F_X8_raise τ (14 : Int32) (0 : Int32))))))
def F_X3_back_c28 (τ : XS) (a0 : Int32) (w2 : Int64) : Bool × XS := (F_X3_back_c35 τ a0 w2 (w2.toInt32 &&& (15 : Int32)))
def F_X3_back (σ : XS) (a0 : Int32) : Bool × XS := (if a0 = (-694221856 : Int32) then (if (F_X8_level σ) = 0 then (false, σ) else (F_X3_back_c28 σ a0 (F_X8_part σ (38 : Int32)))) else (false, σ))
set_option maxHeartbeats 4000000 in
set_option maxRecDepth 100000 in
theorem c_X3_back (l : Launch) (z : Cx) (r : Nat → Nat) (σ : XS) (a0 : Int32) (sz : Nat) (res : Bool × XS) (hf : F_X3_back σ a0 = res) : Met l yX3_back (wsC yX3_back cX3_back 5 (some .boolean)) { frames := 2, cells := 0, slots := 0, locals := 49 } (mPc z (xW z r σ) sz [.ref (r 12), .int a0]) (gM z (va_A (xW z r σ) sz) (some (.int (zB res.1))) (xW z r res.2)) 0 0 (va_A (xW z r σ) sz) := by
  refine mk_m_z (own := RX3) (wf := xW z r) (by decide) rfl sz _ (Nat.le_of_ble_eq_true rfl) (fun p e s m below meth c A H locs Q ls S hK hA hP hD hS hl hend => ?_)
  have hx := S.1
  have hb := S.2.1
  have hown := S.2.2.2.1
  have hts := S.2.2.2.2
  have hl : lv_has ls 5 [(0, .ref (r 12)), (1, .int a0)] := hl
  have J_c122 : ∀ (τ : XS) (w4 : Int32) (s0 : Bool) (H : Heap) (locs : List Loc) (ls : Array Slot), F_X3_back_c122 τ a0 w4 s0 = res → va_P z.1 vwCl (xW z r τ) H → va_D A (xW z r τ) → va_S A s.heap H locs → lv_has ls 5 [(0, .ref (r 12)), (4, .int w4)] → W p l e { frames := 2, cells := 0, slots := 0, locals := 49 } s m ([.ref (r 12), .int a0] : List Value).toArray below meth c H locs 0 0 Q (F0 m 122 ls [.int (zB s0)]) := by
    intro τ w4 s0 H locs ls hf hP hD hS hl
    unfold F_X3_back_c122 at hf
    refine lv_pop hx hb dX3_back_122 rfl ?_
    refine lv_aload_n hx hb dX3_back_123 rfl (lv_at hl 0 rfl) ?_
    refine fg_X3_state S hK hP tf_X3_9 dX3_back_124 ?_
    refine lv_bipush (v := 44) hx hb dX3_back_127 (by decide) ?_
    refine lv_iload hx hb dX3_back_129 (lv_at hl 1 rfl) ?_
    refine lv_i2l hx hb dX3_back_131 rfl ?_
    refine k_X8_putPart (a0 := (44 : Int32)) (a1 := w4.toInt64) S hK hA hP hD hS tl_X3_45 ⟨Nat.le_of_ble_eq_true rfl, Nat.le_of_ble_eq_true rfl⟩ hl.1 (Nat.le_of_ble_eq_true rfl) dX3_back_132 (fun H locs hP hD hS => ?_)
    refine lv_pop hx hb dX3_back_135 rfl ?_
    refine lv_iconst (v := 1) hx hb dX3_back_136 (by decide) ?_
    exact hend true (F_X8_putPart τ (44 : Int32) w4.toInt64).2 H locs 137 ls hf hP hD hS dX3_back_137
  have J_c107 : ∀ (τ : XS) (w4 : Int32) (s0 : Bool) (H : Heap) (locs : List Loc) (ls : Array Slot), F_X3_back_c107 τ a0 w4 s0 = res → va_P z.1 vwCl (xW z r τ) H → va_D A (xW z r τ) → va_S A s.heap H locs → lv_has ls 5 [(0, .ref (r 12)), (4, .int w4)] → W p l e { frames := 2, cells := 0, slots := 0, locals := 49 } s m ([.ref (r 12), .int a0] : List Value).toArray below meth c H locs 0 0 Q (F0 m 107 ls [.int (zB s0)]) := by
    intro τ w4 s0 H locs ls hf hP hD hS hl
    unfold F_X3_back_c107 at hf
    refine lv_pop hx hb dX3_back_107 rfl ?_
    refine lv_aload_n hx hb dX3_back_108 rfl (lv_at hl 0 rfl) ?_
    refine fg_X3_state S hK hP tf_X3_9 dX3_back_109 ?_
    refine lv_bipush (v := 43) hx hb dX3_back_112 (by decide) ?_
    refine lv_iload hx hb dX3_back_114 (lv_at hl 1 rfl) ?_
    refine lv_iconst (v := 2) hx hb dX3_back_116 (by decide) ?_
    refine lv_iushr (v := (j_iushr w4 (2 : Int32))) hx hb dX3_back_117 rfl ?_
    refine lv_i2l hx hb dX3_back_118 rfl ?_
    refine k_X8_putPart (a0 := (43 : Int32)) (a1 := (j_iushr w4 (2 : Int32)).toInt64) S hK hA hP hD hS tl_X3_45 ⟨Nat.le_of_ble_eq_true rfl, Nat.le_of_ble_eq_true rfl⟩ hl.1 (Nat.le_of_ble_eq_true rfl) dX3_back_119 (fun H locs hP hD hS => ?_)
    exact J_c122 (F_X8_putPart τ (43 : Int32) (j_iushr w4 (2 : Int32)).toInt64).2 w4 (F_X8_putPart τ (43 : Int32) (j_iushr w4 (2 : Int32)).toInt64).1 H locs ls hf hP hD hS (lv_sub hl [0, 1] rfl)
  have J_c93 : ∀ (τ : XS) (w2 : Int64) (w4 : Int32) (s0 : Bool) (H : Heap) (locs : List Loc) (ls : Array Slot), F_X3_back_c93 τ a0 w2 w4 s0 = res → va_P z.1 vwCl (xW z r τ) H → va_D A (xW z r τ) → va_S A s.heap H locs → lv_has ls 5 [(0, .ref (r 12)), (2, .long w2), (4, .int w4)] → W p l e { frames := 2, cells := 0, slots := 0, locals := 49 } s m ([.ref (r 12), .int a0] : List Value).toArray below meth c H locs 0 0 Q (F0 m 93 ls [.int (zB s0)]) := by
    intro τ w2 w4 s0 H locs ls hf hP hD hS hl
    unfold F_X3_back_c93 at hf
    refine lv_pop hx hb dX3_back_93 rfl ?_
    refine lv_aload_n hx hb dX3_back_94 rfl (lv_at hl 0 rfl) ?_
    refine fg_X3_state S hK hP tf_X3_9 dX3_back_95 ?_
    refine lv_bipush (v := 45) hx hb dX3_back_98 (by decide) ?_
    refine lv_lload_n hx hb dX3_back_100 rfl (lv_at hl 1 rfl) ?_
    refine lv_bipush (v := 7) hx hb dX3_back_101 (by decide) ?_
    refine lv_lushr (v := (j_lushr w2 (7 : Int32))) hx hb dX3_back_103 rfl ?_
    refine k_X8_putPart (a0 := (45 : Int32)) (a1 := (j_lushr w2 (7 : Int32))) S hK hA hP hD hS tl_X3_45 ⟨Nat.le_of_ble_eq_true rfl, Nat.le_of_ble_eq_true rfl⟩ hl.1 (Nat.le_of_ble_eq_true rfl) dX3_back_104 (fun H locs hP hD hS => ?_)
    exact J_c107 (F_X8_putPart τ (45 : Int32) (j_lushr w2 (7 : Int32))).2 w4 (F_X8_putPart τ (45 : Int32) (j_lushr w2 (7 : Int32))).1 H locs ls hf hP hD hS (lv_sub hl [0, 2] rfl)
  have J_c64 : ∀ (τ : XS) (w2 : Int64) (w4 : Int32) (H : Heap) (locs : List Loc) (ls : Array Slot), F_X3_back_c64 τ a0 w2 w4 = res → va_P z.1 vwCl (xW z r τ) H → va_D A (xW z r τ) → va_S A s.heap H locs → lv_has ls 5 [(0, .ref (r 12)), (2, .long w2), (4, .int w4)] → W p l e { frames := 2, cells := 0, slots := 0, locals := 49 } s m ([.ref (r 12), .int a0] : List Value).toArray below meth c H locs 0 0 Q (F0 m 64 ls []) := by
    intro τ w2 w4 H locs ls hf hP hD hS hl
    unfold F_X3_back_c64 at hf
    refine lv_aload_n hx hb dX3_back_64 rfl (lv_at hl 0 rfl) ?_
    refine fg_X3_state S hK hP tf_X3_9 dX3_back_65 ?_
    refine lv_aload_n hx hb dX3_back_68 rfl (lv_at hl 0 rfl) ?_
    refine fg_X3_state S hK hP tf_X3_9 dX3_back_69 ?_
    refine lv_bipush (v := 37) hx hb dX3_back_72 (by decide) ?_
    refine k_X8_part (a0 := (37 : Int32)) S hK hP tl_X3_37 ⟨Nat.le_of_ble_eq_true rfl, Nat.le_of_ble_eq_true rfl⟩ hl.1 (Nat.le_of_ble_eq_true rfl) dX3_back_74 ?_
    refine k_X8_goTo (a0 := (F_X8_part τ (37 : Int32))) S hK hA hP hD hS tl_X3_41 ⟨Nat.le_of_ble_eq_true rfl, Nat.le_of_ble_eq_true rfl⟩ hl.1 (Nat.le_of_ble_eq_true rfl) dX3_back_77 (fun H locs hP hD hS => ?_)
    refine lv_aload_n hx hb dX3_back_80 rfl (lv_at hl 0 rfl) ?_
    refine fg_X3_state S hK hP tf_X3_9 dX3_back_81 ?_
    refine lv_bipush (v := 42) hx hb dX3_back_84 (by decide) ?_
    refine lv_lload_n hx hb dX3_back_86 rfl (lv_at hl 1 rfl) ?_
    refine lv_bipush (v := 28) hx hb dX3_back_87 (by decide) ?_
    refine lv_lushr (v := (j_lushr w2 (28 : Int32))) hx hb dX3_back_89 rfl ?_
    refine k_X8_putPart (a0 := (42 : Int32)) (a1 := (j_lushr w2 (28 : Int32))) S hK hA hP hD hS tl_X3_45 ⟨Nat.le_of_ble_eq_true rfl, Nat.le_of_ble_eq_true rfl⟩ hl.1 (Nat.le_of_ble_eq_true rfl) dX3_back_90 (fun H locs hP hD hS => ?_)
    exact J_c93 (F_X8_putPart (F_X8_goTo τ (F_X8_part τ (37 : Int32))) (42 : Int32) (j_lushr w2 (28 : Int32))).2 w2 w4 (F_X8_putPart (F_X8_goTo τ (F_X8_part τ (37 : Int32))) (42 : Int32) (j_lushr w2 (28 : Int32))).1 H locs ls hf hP hD hS (lv_sub hl [0, 1, 2] rfl)
  have J_c35 : ∀ (τ : XS) (w2 : Int64) (w4 : Int32) (H : Heap) (locs : List Loc) (ls : Array Slot), F_X3_back_c35 τ a0 w2 w4 = res → va_P z.1 vwCl (xW z r τ) H → va_D A (xW z r τ) → va_S A s.heap H locs → lv_has ls 5 [(0, .ref (r 12)), (2, .long w2), (4, .int w4)] → W p l e { frames := 2, cells := 0, slots := 0, locals := 49 } s m ([.ref (r 12), .int a0] : List Value).toArray below meth c H locs 0 0 Q (F0 m 35 ls []) := by
    intro τ w2 w4 H locs ls hf hP hD hS hl
    unfold F_X3_back_c35 at hf
    refine lv_iload hx hb dX3_back_35 (lv_at hl 2 rfl) ?_
    refine lv_if_eq (tgt := 64) hx hb dX3_back_37 (by decide) (fun c_37 => ?_) (fun c_37 => ?_)
    · rw [if_pos c_37] at hf
      exact J_c64 τ w2 w4 H locs ls hf hP hD hS (lv_sub hl [0, 1, 2] rfl)
    · rw [if_neg c_37] at hf
      refine lv_iload hx hb dX3_back_40 (lv_at hl 2 rfl) ?_
      refine lv_iconst (v := 4) hx hb dX3_back_42 (by decide) ?_
      refine lv_icmp_eq (tgt := 64) hx hb dX3_back_43 (by decide) (fun c_43 => ?_) (fun c_43 => ?_)
      · rw [if_pos c_43] at hf
        exact J_c64 τ w2 w4 H locs ls hf hP hD hS (lv_sub hl [0, 1, 2] rfl)
      · rw [if_neg c_43] at hf
        refine lv_iload hx hb dX3_back_46 (lv_at hl 2 rfl) ?_
        refine lv_iconst (v := 5) hx hb dX3_back_48 (by decide) ?_
        refine lv_icmp_eq (tgt := 64) hx hb dX3_back_49 (by decide) (fun c_49 => ?_) (fun c_49 => ?_)
        · rw [if_pos c_49] at hf
          exact J_c64 τ w2 w4 H locs ls hf hP hD hS (lv_sub hl [0, 1, 2] rfl)
        · rw [if_neg c_49] at hf
          refine lv_aload_n hx hb dX3_back_52 rfl (lv_at hl 0 rfl) ?_
          refine fg_X3_state S hK hP tf_X3_9 dX3_back_53 ?_
          refine lv_bipush (v := 14) hx hb dX3_back_56 (by decide) ?_
          refine lv_iconst (v := 0) hx hb dX3_back_58 (by decide) ?_
          refine k_X8_raise (a0 := (14 : Int32)) (a1 := (0 : Int32)) S hK hA hP hD hS tl_X3_27 ⟨Nat.le_of_ble_eq_true rfl, Nat.le_of_ble_eq_true rfl⟩ hl.1 (Nat.le_of_ble_eq_true rfl) dX3_back_59 (fun H locs hP hD hS => ?_)
          refine lv_iconst (v := 1) hx hb dX3_back_62 (by decide) ?_
          exact hend true (F_X8_raise τ (14 : Int32) (0 : Int32)) H locs 63 ls hf hP hD hS dX3_back_63
  have J_c28 : ∀ (τ : XS) (w2 : Int64) (H : Heap) (locs : List Loc) (ls : Array Slot), F_X3_back_c28 τ a0 w2 = res → va_P z.1 vwCl (xW z r τ) H → va_D A (xW z r τ) → va_S A s.heap H locs → lv_has ls 5 [(0, .ref (r 12)), (2, .long w2)] → W p l e { frames := 2, cells := 0, slots := 0, locals := 49 } s m ([.ref (r 12), .int a0] : List Value).toArray below meth c H locs 0 0 Q (F0 m 28 ls []) := by
    intro τ w2 H locs ls hf hP hD hS hl
    unfold F_X3_back_c28 at hf
    refine lv_lload_n hx hb dX3_back_28 rfl (lv_at hl 1 rfl) ?_
    refine lv_l2i hx hb dX3_back_29 rfl ?_
    refine lv_bipush (v := 15) hx hb dX3_back_30 (by decide) ?_
    refine lv_iand hx hb dX3_back_32 ?_
    refine lv_istore (lv' := [(4, .int (w2.toInt32 &&& (15 : Int32))), (0, .ref (r 12)), (2, .long w2)]) hx hb dX3_back_33 hl (by decide) rfl (fun ls hl => ?_)
    exact J_c35 τ w2 (w2.toInt32 &&& (15 : Int32)) H locs ls hf hP hD hS (lv_sub hl [1, 2, 0] rfl)
  unfold F_X3_back at hf
  refine lv_iload_n hx hb dX3_back_0 rfl (lv_at hl 1 rfl) ?_
  refine lv_ldc (v := -694221856) hx hb hown (hts _ tk_X3_32) dX3_back_1 ?_
  refine lv_icmp_ne (tgt := 16) hx hb dX3_back_3 (by decide) (fun c_3 => ?_) (fun c_3 => ?_)
  · rw [if_neg c_3] at hf
    refine lv_iconst (v := 0) hx hb dX3_back_16 (by decide) ?_
    exact hend false σ H locs 17 ls hf hP hD hS dX3_back_17
  · rw [if_pos c_3] at hf
    refine lv_aload_n hx hb dX3_back_6 rfl (lv_at hl 0 rfl) ?_
    refine fg_X3_state S hK hP tf_X3_9 dX3_back_7 ?_
    refine k_X8_level S hK hP tl_X3_33 ⟨Nat.le_of_ble_eq_true rfl, Nat.le_of_ble_eq_true rfl⟩ hl.1 (Nat.le_of_ble_eq_true rfl) dX3_back_10 ?_
    refine lv_if_ne (tgt := 18) hx hb dX3_back_13 (by decide) (fun c_13 => ?_) (fun c_13 => ?_)
    · rw [if_neg c_13] at hf
      refine lv_aload_n hx hb dX3_back_18 rfl (lv_at hl 0 rfl) ?_
      refine fg_X3_state S hK hP tf_X3_9 dX3_back_19 ?_
      refine lv_bipush (v := 38) hx hb dX3_back_22 (by decide) ?_
      refine k_X8_part (a0 := (38 : Int32)) S hK hP tl_X3_37 ⟨Nat.le_of_ble_eq_true rfl, Nat.le_of_ble_eq_true rfl⟩ hl.1 (Nat.le_of_ble_eq_true rfl) dX3_back_24 ?_
      refine lv_lstore_n (lv' := [(2, .long (F_X8_part σ (38 : Int32))), (0, .ref (r 12)), (1, .int a0)]) hx hb dX3_back_27 rfl hl (by decide) rfl (fun ls hl => ?_)
      exact J_c28 σ (F_X8_part σ (38 : Int32)) H locs ls hf hP hD hS (lv_sub hl [1, 0] rfl)
    · rw [if_pos c_13] at hf
      refine lv_iconst (v := 0) hx hb dX3_back_16 (by decide) ?_
      exact hend false σ H locs 17 ls hf hP hD hS dX3_back_17
theorem k_X3_back {p : Program} {l : Launch} {e : Env} {R : Room} {s : State} {m : MethodId} {args : Array Value} {below : List Frame} {meth : Method} {c : Code} {H : Heap} {locs : List Loc} {Q : State → Prop} {cc : ByteArray} {pc : Nat} {ls : Array Slot} {rest : List Value} {own : String} {index nL : Nat} {A : Nat → Prop} {z : Cx} {r : Nat → Nat} {σ : XS} {a0 : Int32} (S : CallFix p m c cc nL s args tbG own) (hK : va_K z.1 vwCl (cxT z) s) (hA : ∀ q, s.heap.size ≤ q → A q) (hP : va_P z.1 vwCl (xW z r σ) H) (hD : va_D A (xW z r σ)) (hS : va_S A s.heap H locs) (hl : Cond.methodLink own index yX3_back ∈ tbG) (hR : 2 + 1 ≤ R.frames ∧ 8 + (5 + 11) + 49 ≤ R.locals) (hsz : ls.size = nL) (hcat : (rest.map fun v => v.category).sum ≤ 8) (hdg : decode cc pc = .ok (.invokevirtual index, 3)) (kk : ∀ (H : Heap) (locs : List Loc), va_P z.1 vwCl (xW z r (F_X3_back σ a0).2) H → va_D A (xW z r (F_X3_back σ a0).2) → va_S A s.heap H locs → W p l e R s m args below meth c H locs 0 0 Q (F0 m (pc + 3) ls (.int (zB (F_X3_back σ a0).1) :: rest))) : W p l e R s m args below meth c H locs 0 0 Q (F0 m pc ls (.int a0 :: .ref (r 12) :: rest)) :=
  km (As := [.int a0]) (ov := some (.int (zB (F_X3_back σ a0).1))) (w' := xW z r (F_X3_back σ a0).2) (q0 := 12) (ci := 2) S hK hA hP hD hS (c_X3_back l z r σ a0 H.size _ rfl) ⟨tb_cB 1 S.2.2.2.2 tc_X3_back ti_X3 hl rfl rfl (by decide +kernel) hR, S.2.2.2.2 _ tm_X3_back, S.2.2.2.2 _ te_X3_back⟩ rfl rfl rfl rfl hsz rfl hcat hdg kk

