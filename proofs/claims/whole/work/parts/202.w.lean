theorem dX0_single_0 : decode cX0_single 0 = .ok (.iload_n 1, 1) := by decide +kernel
theorem dX0_single_1 : decode cX0_single 1 = .ok (.bipush 30, 2) := by decide +kernel
theorem dX0_single_3 : decode cX0_single 3 = .ok (.iushr, 1) := by decide +kernel
theorem dX0_single_4 : decode cX0_single 4 = .ok (.istore_n 2, 1) := by decide +kernel
theorem dX0_single_5 : decode cX0_single 5 = .ok (.iload_n 1, 1) := by decide +kernel
theorem dX0_single_6 : decode cX0_single 6 = .ok (.bipush 22, 2) := by decide +kernel
theorem dX0_single_8 : decode cX0_single 8 = .ok (.iconst 2, 1) := by decide +kernel
theorem dX0_single_9 : decode cX0_single 9 = .ok (.invokestatic 21, 3) := by decide +kernel
theorem dX0_single_12 : decode cX0_single 12 = .ok (.istore_n 3, 1) := by decide +kernel
theorem dX0_single_13 : decode cX0_single 13 = .ok (.iload_n 1, 1) := by decide +kernel
theorem dX0_single_14 : decode cX0_single 14 = .ok (.invokestatic 27, 3) := by decide +kernel
theorem dX0_single_17 : decode cX0_single 17 = .ok (.ifCond .eq 10, 3) := by decide +kernel
theorem dX0_single_20 : decode cX0_single 20 = .ok (.iload_n 2, 1) := by decide +kernel
theorem dX0_single_21 : decode cX0_single 21 = .ok (.iload_n 3, 1) := by decide +kernel
theorem dX0_single_22 : decode cX0_single 22 = .ok (.iadd, 1) := by decide +kernel
theorem dX0_single_23 : decode cX0_single 23 = .ok (.iconst 4, 1) := by decide +kernel
theorem dX0_single_24 : decode cX0_single 24 = .ok (.if_icmp .le 5, 3) := by decide +kernel
theorem dX0_single_27 : decode cX0_single 27 = .ok (.iconst 0, 1) := by decide +kernel
theorem dX0_single_28 : decode cX0_single 28 = .ok (.ireturn, 1) := by decide +kernel
theorem dX0_single_29 : decode cX0_single 29 = .ok (.iload_n 1, 1) := by decide +kernel
theorem dX0_single_30 : decode cX0_single 30 = .ok (.iconst 5, 1) := by decide +kernel
theorem dX0_single_31 : decode cX0_single 31 = .ok (.iconst 5, 1) := by decide +kernel
theorem dX0_single_32 : decode cX0_single 32 = .ok (.invokestatic 21, 3) := by decide +kernel
theorem dX0_single_35 : decode cX0_single 35 = .ok (.istore 4, 2) := by decide +kernel
theorem dX0_single_37 : decode cX0_single 37 = .ok (.aload_n 0, 1) := by decide +kernel
theorem dX0_single_38 : decode cX0_single 38 = .ok (.iload 4, 2) := by decide +kernel
theorem dX0_single_40 : decode cX0_single 40 = .ok (.invokevirtual 31, 3) := by decide +kernel
theorem dX0_single_43 : decode cX0_single 43 = .ok (.ifCond .eq 15, 3) := by decide +kernel
theorem dX0_single_46 : decode cX0_single 46 = .ok (.aload_n 0, 1) := by decide +kernel
theorem dX0_single_47 : decode cX0_single 47 = .ok (.getfield 13, 3) := by decide +kernel
theorem dX0_single_50 : decode cX0_single 50 = .ok (.bipush 38, 2) := by decide +kernel
theorem dX0_single_52 : decode cX0_single 52 = .ok (.iconst 0, 1) := by decide +kernel
theorem dX0_single_53 : decode cX0_single 53 = .ok (.invokevirtual 34, 3) := by decide +kernel
theorem dX0_single_56 : decode cX0_single 56 = .ok (.iconst 1, 1) := by decide +kernel
theorem dX0_single_57 : decode cX0_single 57 = .ok (.ireturn, 1) := by decide +kernel
theorem dX0_single_58 : decode cX0_single 58 = .ok (.iload_n 1, 1) := by decide +kernel
theorem dX0_single_59 : decode cX0_single 59 = .ok (.invokestatic 40, 3) := by decide +kernel
theorem dX0_single_62 : decode cX0_single 62 = .ok (.istore 5, 2) := by decide +kernel
theorem dX0_single_64 : decode cX0_single 64 = .ok (.aload_n 0, 1) := by decide +kernel
theorem dX0_single_65 : decode cX0_single 65 = .ok (.getfield 13, 3) := by decide +kernel
theorem dX0_single_68 : decode cX0_single 68 = .ok (.iload 4, 2) := by decide +kernel
theorem dX0_single_70 : decode cX0_single 70 = .ok (.invokevirtual 44, 3) := by decide +kernel
theorem dX0_single_73 : decode cX0_single 73 = .ok (.lstore 6, 2) := by decide +kernel
theorem dX0_single_75 : decode cX0_single 75 = .ok (.lload 6, 2) := by decide +kernel
theorem dX0_single_77 : decode cX0_single 77 = .ok (.aload_n 0, 1) := by decide +kernel
theorem dX0_single_78 : decode cX0_single 78 = .ok (.iload_n 1, 1) := by decide +kernel
theorem dX0_single_79 : decode cX0_single 79 = .ok (.invokevirtual 48, 3) := by decide +kernel
theorem dX0_single_82 : decode cX0_single 82 = .ok (.ladd, 1) := by decide +kernel
theorem dX0_single_83 : decode cX0_single 83 = .ok (.lstore 8, 2) := by decide +kernel
theorem dX0_single_85 : decode cX0_single 85 = .ok (.iload 5, 2) := by decide +kernel
theorem dX0_single_87 : decode cX0_single 87 = .ok (.iconst 1, 1) := by decide +kernel
theorem dX0_single_88 : decode cX0_single 88 = .ok (.if_icmp .ne 8, 3) := by decide +kernel
theorem dX0_single_91 : decode cX0_single 91 = .ok (.lload 6, 2) := by decide +kernel
theorem dX0_single_93 : decode cX0_single 93 = .ok (.goto 5, 3) := by decide +kernel
theorem dX0_single_96 : decode cX0_single 96 = .ok (.lload 8, 2) := by decide +kernel
theorem dX0_single_98 : decode cX0_single 98 = .ok (.lstore 10, 2) := by decide +kernel
theorem dX0_single_100 : decode cX0_single 100 = .ok (.iload_n 1, 1) := by decide +kernel
theorem dX0_single_101 : decode cX0_single 101 = .ok (.iconst 0, 1) := by decide +kernel
theorem dX0_single_102 : decode cX0_single 102 = .ok (.iconst 5, 1) := by decide +kernel
theorem dX0_single_103 : decode cX0_single 103 = .ok (.invokestatic 21, 3) := by decide +kernel
theorem dX0_single_106 : decode cX0_single 106 = .ok (.istore 12, 2) := by decide +kernel
theorem dX0_single_108 : decode cX0_single 108 = .ok (.iconst 1, 1) := by decide +kernel
theorem dX0_single_109 : decode cX0_single 109 = .ok (.iload_n 2, 1) := by decide +kernel
theorem dX0_single_110 : decode cX0_single 110 = .ok (.ishl, 1) := by decide +kernel
theorem dX0_single_111 : decode cX0_single 111 = .ok (.istore 13, 2) := by decide +kernel
theorem dX0_single_113 : decode cX0_single 113 = .ok (.aload_n 0, 1) := by decide +kernel
theorem dX0_single_114 : decode cX0_single 114 = .ok (.lload 10, 2) := by decide +kernel
theorem dX0_single_116 : decode cX0_single 116 = .ok (.iload 13, 2) := by decide +kernel
theorem dX0_single_118 : decode cX0_single 118 = .ok (.iload_n 3, 1) := by decide +kernel
theorem dX0_single_119 : decode cX0_single 119 = .ok (.ifCond .eq 7, 3) := by decide +kernel
theorem dX0_single_122 : decode cX0_single 122 = .ok (.iconst 1, 1) := by decide +kernel
theorem dX0_single_123 : decode cX0_single 123 = .ok (.goto 4, 3) := by decide +kernel
theorem dX0_single_126 : decode cX0_single 126 = .ok (.iconst 0, 1) := by decide +kernel
theorem dX0_single_127 : decode cX0_single 127 = .ok (.invokevirtual 51, 3) := by decide +kernel
theorem dX0_single_130 : decode cX0_single 130 = .ok (.istore 14, 2) := by decide +kernel
theorem dX0_single_132 : decode cX0_single 132 = .ok (.iload 14, 2) := by decide +kernel
theorem dX0_single_134 : decode cX0_single 134 = .ok (.ifCond .ge 5, 3) := by decide +kernel
theorem dX0_single_137 : decode cX0_single 137 = .ok (.iconst 1, 1) := by decide +kernel
theorem dX0_single_138 : decode cX0_single 138 = .ok (.ireturn, 1) := by decide +kernel
theorem dX0_single_139 : decode cX0_single 139 = .ok (.iload_n 3, 1) := by decide +kernel
theorem dX0_single_140 : decode cX0_single 140 = .ok (.ifCond .ne 24, 3) := by decide +kernel
theorem dX0_single_143 : decode cX0_single 143 = .ok (.aload_n 0, 1) := by decide +kernel
theorem dX0_single_144 : decode cX0_single 144 = .ok (.getfield 7, 3) := by decide +kernel
theorem dX0_single_147 : decode cX0_single 147 = .ok (.iload 14, 2) := by decide +kernel
theorem dX0_single_149 : decode cX0_single 149 = .ok (.i2l, 1) := by decide +kernel
theorem dX0_single_150 : decode cX0_single 150 = .ok (.iload 13, 2) := by decide +kernel
theorem dX0_single_152 : decode cX0_single 152 = .ok (.aload_n 0, 1) := by decide +kernel
theorem dX0_single_153 : decode cX0_single 153 = .ok (.getfield 13, 3) := by decide +kernel
theorem dX0_single_156 : decode cX0_single 156 = .ok (.iload 12, 2) := by decide +kernel
theorem dX0_single_158 : decode cX0_single 158 = .ok (.invokevirtual 55, 3) := by decide +kernel
theorem dX0_single_161 : decode cX0_single 161 = .ok (.invokevirtual 58, 3) := by decide +kernel
theorem dX0_single_164 : decode cX0_single 164 = .ok (.iload 5, 2) := by decide +kernel
theorem dX0_single_166 : decode cX0_single 166 = .ok (.ifCond .eq 14, 3) := by decide +kernel
theorem dX0_single_169 : decode cX0_single 169 = .ok (.aload_n 0, 1) := by decide +kernel
theorem dX0_single_170 : decode cX0_single 170 = .ok (.getfield 13, 3) := by decide +kernel
theorem dX0_single_173 : decode cX0_single 173 = .ok (.iload 4, 2) := by decide +kernel
theorem dX0_single_175 : decode cX0_single 175 = .ok (.lload 8, 2) := by decide +kernel
theorem dX0_single_177 : decode cX0_single 177 = .ok (.invokevirtual 64, 3) := by decide +kernel
theorem dX0_single_180 : decode cX0_single 180 = .ok (.iload_n 3, 1) := by decide +kernel
theorem dX0_single_181 : decode cX0_single 181 = .ok (.ifCond .eq 30, 3) := by decide +kernel
theorem dX0_single_184 : decode cX0_single 184 = .ok (.aload_n 0, 1) := by decide +kernel
theorem dX0_single_185 : decode cX0_single 185 = .ok (.getfield 13, 3) := by decide +kernel
theorem dX0_single_188 : decode cX0_single 188 = .ok (.iload 12, 2) := by decide +kernel
theorem dX0_single_190 : decode cX0_single 190 = .ok (.aload_n 0, 1) := by decide +kernel
theorem dX0_single_191 : decode cX0_single 191 = .ok (.getfield 7, 3) := by decide +kernel
theorem dX0_single_194 : decode cX0_single 194 = .ok (.iload 14, 2) := by decide +kernel
theorem dX0_single_196 : decode cX0_single 196 = .ok (.i2l, 1) := by decide +kernel
theorem dX0_single_197 : decode cX0_single 197 = .ok (.iload 13, 2) := by decide +kernel
theorem dX0_single_199 : decode cX0_single 199 = .ok (.invokevirtual 68, 3) := by decide +kernel
theorem dX0_single_202 : decode cX0_single 202 = .ok (.iload 13, 2) := by decide +kernel
theorem dX0_single_204 : decode cX0_single 204 = .ok (.iload_n 3, 1) := by decide +kernel
theorem dX0_single_205 : decode cX0_single 205 = .ok (.invokestatic 72, 3) := by decide +kernel
theorem dX0_single_208 : decode cX0_single 208 = .ok (.invokevirtual 76, 3) := by decide +kernel
theorem dX0_single_211 : decode cX0_single 211 = .ok (.iconst 1, 1) := by decide +kernel
theorem dX0_single_212 : decode cX0_single 212 = .ok (.ireturn, 1) := by decide +kernel
def F_X0_single_c180 (τ : XS) (a0 : Int32) (w3 : Int32) (w12 : Int32) (w13 : Int32) (w14 : Int32) : Option (Bool × XS) := (if w3 = 0 then some ((true, τ)) else ((F_X4_read τ w14.toInt64 w13).bind fun v2 => some ((true, (F_X8_putRegister τ w12 (F_X0_extended v2 w13 w3))))))
def F_X0_single_c164 (τ : XS) (a0 : Int32) (w3 : Int32) (w4 : Int32) (w5 : Int32) (w8 : Int64) (w12 : Int32) (w13 : Int32) (w14 : Int32) : Option (Bool × XS) := (if w5 = 0 then (F_X0_single_c180 τ a0 w3 w12 w13 w14) else (F_X0_single_c180 (F_X8_putRegisterOrStack τ w4 w8) a0 w3 w12 w13 w14))
def F_X0_single_c127 (τ : XS) (a0 : Int32) (w3 : Int32) (w4 : Int32) (w5 : Int32) (w8 : Int64) (w12 : Int32) (w13 : Int32) (s1 : Int64) (s2 : Int32) (s3 : Bool) : Option (Bool × XS) := ((F_X0_find τ s1 s2 s3).bind fun v1 => (if 0 ≤ v1.1 then (if w3 = 0 then ((F_X4_write v1.2 v1.1.toInt64 w13 (F_X8_register v1.2 w12)).bind fun v3 => (F_X0_single_c164 v3 a0 w3 w4 w5 w8 w12 w13 v1.1)) else (F_X0_single_c164 v1.2 a0 w3 w4 w5 w8 w12 w13 v1.1)) else some ((true, v1.2))))
def F_X0_single_c113 (τ : XS) (a0 : Int32) (w3 : Int32) (w4 : Int32) (w5 : Int32) (w8 : Int64) (w10 : Int64) (w12 : Int32) (w13 : Int32) : Option (Bool × XS) := (if w3 = 0 then (F_X0_single_c127 τ a0 w3 w4 w5 w8 w12 w13 w10 w13 false) else (F_X0_single_c127 τ a0 w3 w4 w5 w8 w12 w13 w10 w13 true))
def F_X0_single_c108 (τ : XS) (a0 : Int32) (w2 : Int32) (w3 : Int32) (w4 : Int32) (w5 : Int32) (w8 : Int64) (w10 : Int64) (w12 : Int32) : Option (Bool × XS) := (F_X0_single_c113 τ a0 w3 w4 w5 w8 w10 w12 ((1 : Int32) <<< (w2 &&& 31)))
def F_X0_single_c98 (τ : XS) (a0 : Int32) (w2 : Int32) (w3 : Int32) (w4 : Int32) (w5 : Int32) (w8 : Int64) (s0 : Int64) : Option (Bool × XS) := (F_X0_single_c108 τ a0 w2 w3 w4 w5 w8 s0 (F_X1_field a0 (0 : Int32) (5 : Int32)))
def F_X0_single_c85 (τ : XS) (a0 : Int32) (w2 : Int32) (w3 : Int32) (w4 : Int32) (w5 : Int32) (w6 : Int64) (w8 : Int64) : Option (Bool × XS) := (if w5 = (1 : Int32) then (F_X0_single_c98 τ a0 w2 w3 w4 w5 w8 w6) else (F_X0_single_c98 τ a0 w2 w3 w4 w5 w8 w8))
def F_X0_single_c75 (τ : XS) (a0 : Int32) (w2 : Int32) (w3 : Int32) (w4 : Int32) (w5 : Int32) (w6 : Int64) : Option (Bool × XS) := (F_X0_single_c85 τ a0 w2 w3 w4 w5 w6 (w6 + (F_X0_offset τ a0)))
def F_X0_single_c64 (τ : XS) (a0 : Int32) (w2 : Int32) (w3 : Int32) (w4 : Int32) (w5 : Int32) : Option (Bool × XS) := (F_X0_single_c75 τ a0 w2 w3 w4 w5 (F_X8_registerOrStack τ w4))
def F_X0_single_c37 (τ : XS) (a0 : Int32) (w2 : Int32) (w3 : Int32) (w4 : Int32) : Option (Bool × XS) := (if (F_X0_stackIsCrooked τ w4) = true then some ((true, (F_X8_raise τ (38 : Int32) (0 : Int32)))) else (F_X0_single_c64 τ a0 w2 w3 w4 (F_X0_change a0)))
def F_X0_single_c13 (τ : XS) (a0 : Int32) (w2 : Int32) (w3 : Int32) : Option (Bool × XS) := (if (F_X0_isSingle a0) = true then (if (w2 + w3) ≤ (4 : Int32) then (F_X0_single_c37 τ a0 w2 w3 (F_X1_field a0 (5 : Int32) (5 : Int32))) else some ((false, τ))) else some ((false, τ)))
def F_X0_single_c5 (τ : XS) (a0 : Int32) (w2 : Int32) : Option (Bool × XS) := (F_X0_single_c13 τ a0 w2 (F_X1_field a0 (22 : Int32) (2 : Int32)))
def F_X0_single (σ : XS) (a0 : Int32) : Option (Bool × XS) := (F_X0_single_c5 σ a0 (j_iushr a0 (30 : Int32)))
set_option maxHeartbeats 4000000 in
set_option maxRecDepth 100000 in
theorem c_X0_single (l : Launch) (z : Cx) (r : Nat → Nat) (σ : XS) (a0 : Int32) (sz : Nat) (res : Bool × XS) (hf : F_X0_single σ a0 = some res) : Met l yX0_single (wsC yX0_single cX0_single 15 (some .boolean)) { frames := 5, cells := 0, slots := 0, locals := 136 } (mPc z (xW z r σ) sz [.ref (r 10), .int a0]) (gM z (va_A (xW z r σ) sz) (some (.int (zB res.1))) (xW z r res.2)) 0 0 (va_A (xW z r σ) sz) := by
  refine mk_m_z (own := RX0) (wf := xW z r) (by decide) rfl sz _ (Nat.le_of_ble_eq_true rfl) (fun p e s m below meth c A H locs Q ls S hK hA hP hD hS hl hend => ?_)
  have hx := S.1
  have hb := S.2.1
  have hown := S.2.2.2.1
  have hts := S.2.2.2.2
  have hl : lv_has ls 15 [(0, .ref (r 10)), (1, .int a0)] := hl
  have J_c180 : ∀ (τ : XS) (w3 : Int32) (w12 : Int32) (w13 : Int32) (w14 : Int32) (H : Heap) (locs : List Loc) (ls : Array Slot), F_X0_single_c180 τ a0 w3 w12 w13 w14 = some res → va_P z.1 vwCl (xW z r τ) H → va_D A (xW z r τ) → va_S A s.heap H locs → lv_has ls 15 [(0, .ref (r 10)), (3, .int w3), (12, .int w12), (13, .int w13), (14, .int w14)] → W p l e { frames := 5, cells := 0, slots := 0, locals := 136 } s m ([.ref (r 10), .int a0] : List Value).toArray below meth c H locs 0 0 Q (F0 m 180 ls []) := by
    intro τ w3 w12 w13 w14 H locs ls hf hP hD hS hl
    unfold F_X0_single_c180 at hf
    refine lv_iload_n hx hb dX0_single_180 rfl (lv_at hl 1 rfl) ?_
    refine lv_if_eq (tgt := 211) hx hb dX0_single_181 (by decide) (fun c_181 => ?_) (fun c_181 => ?_)
    · rw [if_pos c_181] at hf
      refine lv_iconst (v := 1) hx hb dX0_single_211 (by decide) ?_
      exact hend true τ H locs 212 ls (Option.some.inj hf) hP hD hS dX0_single_212
    · rw [if_neg c_181] at hf
      refine lv_aload_n hx hb dX0_single_184 rfl (lv_at hl 0 rfl) ?_
      refine fg_X0_state S hK hP tf_X0_13 dX0_single_185 ?_
      refine lv_iload hx hb dX0_single_188 (lv_at hl 2 rfl) ?_
      refine lv_aload_n hx hb dX0_single_190 rfl (lv_at hl 0 rfl) ?_
      refine fg_X0_memory S hK hP tf_X0_7 dX0_single_191 ?_
      refine lv_iload hx hb dX0_single_194 (lv_at hl 4 rfl) ?_
      refine lv_i2l hx hb dX0_single_196 rfl ?_
      refine lv_iload hx hb dX0_single_197 (lv_at hl 3 rfl) ?_
      obtain ⟨v2, e_v2, hf⟩ := Option.bind_eq_some_iff.mp hf
      refine k_X4_read (a0 := w14.toInt64) (a1 := w13) (res := v2) (hres := e_v2) S hK hP tl_X0_68 ⟨Nat.le_of_ble_eq_true rfl, Nat.le_of_ble_eq_true rfl⟩ hl.1 (Nat.le_of_ble_eq_true rfl) dX0_single_199 ?_
      refine lv_iload hx hb dX0_single_202 (lv_at hl 3 rfl) ?_
      refine lv_iload_n hx hb dX0_single_204 rfl (lv_at hl 1 rfl) ?_
      refine k_X0_extended (a0 := v2) (a1 := w13) (a2 := w3) S tl_X0_72 ⟨Nat.le_of_ble_eq_true rfl, Nat.le_of_ble_eq_true rfl⟩ hl.1 (Nat.le_of_ble_eq_true rfl) dX0_single_205 ?_
      refine k_X8_putRegister (a0 := w12) (a1 := (F_X0_extended v2 w13 w3)) S hK hA hP hD hS tl_X0_76 ⟨Nat.le_of_ble_eq_true rfl, Nat.le_of_ble_eq_true rfl⟩ hl.1 (Nat.le_of_ble_eq_true rfl) dX0_single_208 (fun H locs hP hD hS => ?_)
      refine lv_iconst (v := 1) hx hb dX0_single_211 (by decide) ?_
      exact hend true (F_X8_putRegister τ w12 (F_X0_extended v2 w13 w3)) H locs 212 ls (Option.some.inj hf) hP hD hS dX0_single_212
  have J_c164 : ∀ (τ : XS) (w3 : Int32) (w4 : Int32) (w5 : Int32) (w8 : Int64) (w12 : Int32) (w13 : Int32) (w14 : Int32) (H : Heap) (locs : List Loc) (ls : Array Slot), F_X0_single_c164 τ a0 w3 w4 w5 w8 w12 w13 w14 = some res → va_P z.1 vwCl (xW z r τ) H → va_D A (xW z r τ) → va_S A s.heap H locs → lv_has ls 15 [(0, .ref (r 10)), (3, .int w3), (4, .int w4), (5, .int w5), (8, .long w8), (12, .int w12), (13, .int w13), (14, .int w14)] → W p l e { frames := 5, cells := 0, slots := 0, locals := 136 } s m ([.ref (r 10), .int a0] : List Value).toArray below meth c H locs 0 0 Q (F0 m 164 ls []) := by
    intro τ w3 w4 w5 w8 w12 w13 w14 H locs ls hf hP hD hS hl
    unfold F_X0_single_c164 at hf
    refine lv_iload hx hb dX0_single_164 (lv_at hl 3 rfl) ?_
    refine lv_if_eq (tgt := 180) hx hb dX0_single_166 (by decide) (fun c_166 => ?_) (fun c_166 => ?_)
    · rw [if_pos c_166] at hf
      exact J_c180 τ w3 w12 w13 w14 H locs ls hf hP hD hS (lv_sub hl [0, 1, 5, 6, 7] rfl)
    · rw [if_neg c_166] at hf
      refine lv_aload_n hx hb dX0_single_169 rfl (lv_at hl 0 rfl) ?_
      refine fg_X0_state S hK hP tf_X0_13 dX0_single_170 ?_
      refine lv_iload hx hb dX0_single_173 (lv_at hl 2 rfl) ?_
      refine lv_lload hx hb dX0_single_175 (lv_at hl 4 rfl) ?_
      refine k_X8_putRegisterOrStack (a0 := w4) (a1 := w8) S hK hA hP hD hS tl_X0_64 ⟨Nat.le_of_ble_eq_true rfl, Nat.le_of_ble_eq_true rfl⟩ hl.1 (Nat.le_of_ble_eq_true rfl) dX0_single_177 (fun H locs hP hD hS => ?_)
      exact J_c180 (F_X8_putRegisterOrStack τ w4 w8) w3 w12 w13 w14 H locs ls hf hP hD hS (lv_sub hl [0, 1, 5, 6, 7] rfl)
  have J_c127 : ∀ (τ : XS) (w3 : Int32) (w4 : Int32) (w5 : Int32) (w8 : Int64) (w12 : Int32) (w13 : Int32) (s1 : Int64) (s2 : Int32) (s3 : Bool) (H : Heap) (locs : List Loc) (ls : Array Slot), F_X0_single_c127 τ a0 w3 w4 w5 w8 w12 w13 s1 s2 s3 = some res → va_P z.1 vwCl (xW z r τ) H → va_D A (xW z r τ) → va_S A s.heap H locs → lv_has ls 15 [(0, .ref (r 10)), (3, .int w3), (4, .int w4), (5, .int w5), (8, .long w8), (12, .int w12), (13, .int w13)] → W p l e { frames := 5, cells := 0, slots := 0, locals := 136 } s m ([.ref (r 10), .int a0] : List Value).toArray below meth c H locs 0 0 Q (F0 m 127 ls [.int (zB s3), .int s2, .long s1, .ref (r 10)]) := by
    intro τ w3 w4 w5 w8 w12 w13 s1 s2 s3 H locs ls hf hP hD hS hl
    unfold F_X0_single_c127 at hf
    obtain ⟨v1, e_v1, hf⟩ := Option.bind_eq_some_iff.mp hf
    refine k_X0_find (a0 := s1) (a1 := s2) (a2 := s3) (res := v1) (hres := e_v1) S hK hA hP hD hS tl_X0_51 ⟨Nat.le_of_ble_eq_true rfl, Nat.le_of_ble_eq_true rfl⟩ hl.1 (Nat.le_of_ble_eq_true rfl) dX0_single_127 (fun H locs hP hD hS => ?_)
    refine lv_istore (lv' := [(14, .int v1.1), (0, .ref (r 10)), (3, .int w3), (4, .int w4), (5, .int w5), (8, .long w8), (12, .int w12), (13, .int w13)]) hx hb dX0_single_130 hl (by decide) rfl (fun ls hl => ?_)
    refine lv_iload hx hb dX0_single_132 (lv_at hl 0 rfl) ?_
    refine lv_if_ge (tgt := 139) hx hb dX0_single_134 (by decide) (fun c_134 => ?_) (fun c_134 => ?_)
    · rw [if_pos c_134] at hf
      refine lv_iload_n hx hb dX0_single_139 rfl (lv_at hl 2 rfl) ?_
      refine lv_if_ne (tgt := 164) hx hb dX0_single_140 (by decide) (fun c_140 => ?_) (fun c_140 => ?_)
      · rw [if_neg c_140] at hf
        exact J_c164 v1.2 w3 w4 w5 w8 w12 w13 v1.1 H locs ls hf hP hD hS (lv_sub hl [1, 2, 3, 4, 5, 6, 7, 0] rfl)
      · rw [if_pos c_140] at hf
        refine lv_aload_n hx hb dX0_single_143 rfl (lv_at hl 1 rfl) ?_
        refine fg_X0_memory S hK hP tf_X0_7 dX0_single_144 ?_
        refine lv_iload hx hb dX0_single_147 (lv_at hl 0 rfl) ?_
        refine lv_i2l hx hb dX0_single_149 rfl ?_
        refine lv_iload hx hb dX0_single_150 (lv_at hl 7 rfl) ?_
        refine lv_aload_n hx hb dX0_single_152 rfl (lv_at hl 1 rfl) ?_
        refine fg_X0_state S hK hP tf_X0_13 dX0_single_153 ?_
        refine lv_iload hx hb dX0_single_156 (lv_at hl 6 rfl) ?_
        refine k_X8_register (a0 := w12) S hK hP tl_X0_55 ⟨Nat.le_of_ble_eq_true rfl, Nat.le_of_ble_eq_true rfl⟩ hl.1 (Nat.le_of_ble_eq_true rfl) dX0_single_158 ?_
        obtain ⟨v3, e_v3, hf⟩ := Option.bind_eq_some_iff.mp hf
        refine k_X4_write (a0 := v1.1.toInt64) (a1 := w13) (a2 := (F_X8_register v1.2 w12)) (res := v3) (hres := e_v3) S hK hA hP hD hS tl_X0_58 ⟨Nat.le_of_ble_eq_true rfl, Nat.le_of_ble_eq_true rfl⟩ hl.1 (Nat.le_of_ble_eq_true rfl) dX0_single_161 (fun H locs hP hD hS => ?_)
        exact J_c164 v3 w3 w4 w5 w8 w12 w13 v1.1 H locs ls hf hP hD hS (lv_sub hl [1, 2, 3, 4, 5, 6, 7, 0] rfl)
    · rw [if_neg c_134] at hf
      refine lv_iconst (v := 1) hx hb dX0_single_137 (by decide) ?_
      exact hend true v1.2 H locs 138 ls (Option.some.inj hf) hP hD hS dX0_single_138
  have J_c113 : ∀ (τ : XS) (w3 : Int32) (w4 : Int32) (w5 : Int32) (w8 : Int64) (w10 : Int64) (w12 : Int32) (w13 : Int32) (H : Heap) (locs : List Loc) (ls : Array Slot), F_X0_single_c113 τ a0 w3 w4 w5 w8 w10 w12 w13 = some res → va_P z.1 vwCl (xW z r τ) H → va_D A (xW z r τ) → va_S A s.heap H locs → lv_has ls 15 [(0, .ref (r 10)), (3, .int w3), (4, .int w4), (5, .int w5), (8, .long w8), (10, .long w10), (12, .int w12), (13, .int w13)] → W p l e { frames := 5, cells := 0, slots := 0, locals := 136 } s m ([.ref (r 10), .int a0] : List Value).toArray below meth c H locs 0 0 Q (F0 m 113 ls []) := by
    intro τ w3 w4 w5 w8 w10 w12 w13 H locs ls hf hP hD hS hl
    unfold F_X0_single_c113 at hf
    refine lv_aload_n hx hb dX0_single_113 rfl (lv_at hl 0 rfl) ?_
    refine lv_lload hx hb dX0_single_114 (lv_at hl 5 rfl) ?_
    refine lv_iload hx hb dX0_single_116 (lv_at hl 7 rfl) ?_
    refine lv_iload_n hx hb dX0_single_118 rfl (lv_at hl 1 rfl) ?_
    refine lv_if_eq (tgt := 126) hx hb dX0_single_119 (by decide) (fun c_119 => ?_) (fun c_119 => ?_)
    · rw [if_pos c_119] at hf
      refine lv_iconst (v := 0) hx hb dX0_single_126 (by decide) ?_
      exact J_c127 τ w3 w4 w5 w8 w12 w13 w10 w13 false H locs ls hf hP hD hS (lv_sub hl [0, 1, 2, 3, 4, 6, 7] rfl)
    · rw [if_neg c_119] at hf
      refine lv_iconst (v := 1) hx hb dX0_single_122 (by decide) ?_
      refine lv_goto (tgt := 127) hx hb dX0_single_123 (by decide) ?_
      exact J_c127 τ w3 w4 w5 w8 w12 w13 w10 w13 true H locs ls hf hP hD hS (lv_sub hl [0, 1, 2, 3, 4, 6, 7] rfl)
  have J_c108 : ∀ (τ : XS) (w2 : Int32) (w3 : Int32) (w4 : Int32) (w5 : Int32) (w8 : Int64) (w10 : Int64) (w12 : Int32) (H : Heap) (locs : List Loc) (ls : Array Slot), F_X0_single_c108 τ a0 w2 w3 w4 w5 w8 w10 w12 = some res → va_P z.1 vwCl (xW z r τ) H → va_D A (xW z r τ) → va_S A s.heap H locs → lv_has ls 15 [(0, .ref (r 10)), (2, .int w2), (3, .int w3), (4, .int w4), (5, .int w5), (8, .long w8), (10, .long w10), (12, .int w12)] → W p l e { frames := 5, cells := 0, slots := 0, locals := 136 } s m ([.ref (r 10), .int a0] : List Value).toArray below meth c H locs 0 0 Q (F0 m 108 ls []) := by
    intro τ w2 w3 w4 w5 w8 w10 w12 H locs ls hf hP hD hS hl
    unfold F_X0_single_c108 at hf
    refine lv_iconst (v := 1) hx hb dX0_single_108 (by decide) ?_
    refine lv_iload_n hx hb dX0_single_109 rfl (lv_at hl 1 rfl) ?_
    refine lv_ishl hx hb dX0_single_110 ?_
    refine lv_istore (lv' := [(13, .int ((1 : Int32) <<< (w2 &&& 31))), (0, .ref (r 10)), (2, .int w2), (3, .int w3), (4, .int w4), (5, .int w5), (8, .long w8), (10, .long w10), (12, .int w12)]) hx hb dX0_single_111 hl (by decide) rfl (fun ls hl => ?_)
    exact J_c113 τ w3 w4 w5 w8 w10 w12 ((1 : Int32) <<< (w2 &&& 31)) H locs ls hf hP hD hS (lv_sub hl [1, 3, 4, 5, 6, 7, 8, 0] rfl)
  have J_c98 : ∀ (τ : XS) (w2 : Int32) (w3 : Int32) (w4 : Int32) (w5 : Int32) (w8 : Int64) (s0 : Int64) (H : Heap) (locs : List Loc) (ls : Array Slot), F_X0_single_c98 τ a0 w2 w3 w4 w5 w8 s0 = some res → va_P z.1 vwCl (xW z r τ) H → va_D A (xW z r τ) → va_S A s.heap H locs → lv_has ls 15 [(0, .ref (r 10)), (1, .int a0), (2, .int w2), (3, .int w3), (4, .int w4), (5, .int w5), (8, .long w8)] → W p l e { frames := 5, cells := 0, slots := 0, locals := 136 } s m ([.ref (r 10), .int a0] : List Value).toArray below meth c H locs 0 0 Q (F0 m 98 ls [.long s0]) := by
    intro τ w2 w3 w4 w5 w8 s0 H locs ls hf hP hD hS hl
    unfold F_X0_single_c98 at hf
    refine lv_lstore (lv' := [(10, .long s0), (0, .ref (r 10)), (1, .int a0), (2, .int w2), (3, .int w3), (4, .int w4), (5, .int w5), (8, .long w8)]) hx hb dX0_single_98 hl (by decide) rfl (fun ls hl => ?_)
    refine lv_iload_n hx hb dX0_single_100 rfl (lv_at hl 2 rfl) ?_
    refine lv_iconst (v := 0) hx hb dX0_single_101 (by decide) ?_
    refine lv_iconst (v := 5) hx hb dX0_single_102 (by decide) ?_
    refine k_X1_field (a0 := a0) (a1 := (0 : Int32)) (a2 := (5 : Int32)) S tl_X0_21 ⟨Nat.le_of_ble_eq_true rfl, Nat.le_of_ble_eq_true rfl⟩ hl.1 (Nat.le_of_ble_eq_true rfl) dX0_single_103 ?_
    refine lv_istore (lv' := [(12, .int (F_X1_field a0 (0 : Int32) (5 : Int32))), (10, .long s0), (0, .ref (r 10)), (1, .int a0), (2, .int w2), (3, .int w3), (4, .int w4), (5, .int w5), (8, .long w8)]) hx hb dX0_single_106 hl (by decide) rfl (fun ls hl => ?_)
    exact J_c108 τ w2 w3 w4 w5 w8 s0 (F_X1_field a0 (0 : Int32) (5 : Int32)) H locs ls hf hP hD hS (lv_sub hl [2, 4, 5, 6, 7, 8, 1, 0] rfl)
  have J_c85 : ∀ (τ : XS) (w2 : Int32) (w3 : Int32) (w4 : Int32) (w5 : Int32) (w6 : Int64) (w8 : Int64) (H : Heap) (locs : List Loc) (ls : Array Slot), F_X0_single_c85 τ a0 w2 w3 w4 w5 w6 w8 = some res → va_P z.1 vwCl (xW z r τ) H → va_D A (xW z r τ) → va_S A s.heap H locs → lv_has ls 15 [(0, .ref (r 10)), (1, .int a0), (2, .int w2), (3, .int w3), (4, .int w4), (5, .int w5), (6, .long w6), (8, .long w8)] → W p l e { frames := 5, cells := 0, slots := 0, locals := 136 } s m ([.ref (r 10), .int a0] : List Value).toArray below meth c H locs 0 0 Q (F0 m 85 ls []) := by
    intro τ w2 w3 w4 w5 w6 w8 H locs ls hf hP hD hS hl
    unfold F_X0_single_c85 at hf
    refine lv_iload hx hb dX0_single_85 (lv_at hl 5 rfl) ?_
    refine lv_iconst (v := 1) hx hb dX0_single_87 (by decide) ?_
    refine lv_icmp_ne (tgt := 96) hx hb dX0_single_88 (by decide) (fun c_88 => ?_) (fun c_88 => ?_)
    · rw [if_neg c_88] at hf
      refine lv_lload hx hb dX0_single_96 (lv_at hl 7 rfl) ?_
      exact J_c98 τ w2 w3 w4 w5 w8 w8 H locs ls hf hP hD hS (lv_sub hl [0, 1, 2, 3, 4, 5, 7] rfl)
    · rw [if_pos c_88] at hf
      refine lv_lload hx hb dX0_single_91 (lv_at hl 6 rfl) ?_
      refine lv_goto (tgt := 98) hx hb dX0_single_93 (by decide) ?_
      exact J_c98 τ w2 w3 w4 w5 w8 w6 H locs ls hf hP hD hS (lv_sub hl [0, 1, 2, 3, 4, 5, 7] rfl)
  have J_c75 : ∀ (τ : XS) (w2 : Int32) (w3 : Int32) (w4 : Int32) (w5 : Int32) (w6 : Int64) (H : Heap) (locs : List Loc) (ls : Array Slot), F_X0_single_c75 τ a0 w2 w3 w4 w5 w6 = some res → va_P z.1 vwCl (xW z r τ) H → va_D A (xW z r τ) → va_S A s.heap H locs → lv_has ls 15 [(0, .ref (r 10)), (1, .int a0), (2, .int w2), (3, .int w3), (4, .int w4), (5, .int w5), (6, .long w6)] → W p l e { frames := 5, cells := 0, slots := 0, locals := 136 } s m ([.ref (r 10), .int a0] : List Value).toArray below meth c H locs 0 0 Q (F0 m 75 ls []) := by
    intro τ w2 w3 w4 w5 w6 H locs ls hf hP hD hS hl
    unfold F_X0_single_c75 at hf
    refine lv_lload hx hb dX0_single_75 (lv_at hl 6 rfl) ?_
    refine lv_aload_n hx hb dX0_single_77 rfl (lv_at hl 0 rfl) ?_
    refine lv_iload_n hx hb dX0_single_78 rfl (lv_at hl 1 rfl) ?_
    refine k_X0_offset (a0 := a0) S hK hP tl_X0_48 ⟨Nat.le_of_ble_eq_true rfl, Nat.le_of_ble_eq_true rfl⟩ hl.1 (Nat.le_of_ble_eq_true rfl) dX0_single_79 ?_
    refine lv_ladd hx hb dX0_single_82 ?_
    refine lv_lstore (lv' := [(8, .long (w6 + (F_X0_offset τ a0))), (0, .ref (r 10)), (1, .int a0), (2, .int w2), (3, .int w3), (4, .int w4), (5, .int w5), (6, .long w6)]) hx hb dX0_single_83 hl (by decide) rfl (fun ls hl => ?_)
    exact J_c85 τ w2 w3 w4 w5 w6 (w6 + (F_X0_offset τ a0)) H locs ls hf hP hD hS (lv_sub hl [1, 2, 3, 4, 5, 6, 7, 0] rfl)
  have J_c64 : ∀ (τ : XS) (w2 : Int32) (w3 : Int32) (w4 : Int32) (w5 : Int32) (H : Heap) (locs : List Loc) (ls : Array Slot), F_X0_single_c64 τ a0 w2 w3 w4 w5 = some res → va_P z.1 vwCl (xW z r τ) H → va_D A (xW z r τ) → va_S A s.heap H locs → lv_has ls 15 [(0, .ref (r 10)), (1, .int a0), (2, .int w2), (3, .int w3), (4, .int w4), (5, .int w5)] → W p l e { frames := 5, cells := 0, slots := 0, locals := 136 } s m ([.ref (r 10), .int a0] : List Value).toArray below meth c H locs 0 0 Q (F0 m 64 ls []) := by
    intro τ w2 w3 w4 w5 H locs ls hf hP hD hS hl
    unfold F_X0_single_c64 at hf
    refine lv_aload_n hx hb dX0_single_64 rfl (lv_at hl 0 rfl) ?_
    refine fg_X0_state S hK hP tf_X0_13 dX0_single_65 ?_
    refine lv_iload hx hb dX0_single_68 (lv_at hl 4 rfl) ?_
    refine k_X8_registerOrStack (a0 := w4) S hK hP tl_X0_44 ⟨Nat.le_of_ble_eq_true rfl, Nat.le_of_ble_eq_true rfl⟩ hl.1 (Nat.le_of_ble_eq_true rfl) dX0_single_70 ?_
    refine lv_lstore (lv' := [(6, .long (F_X8_registerOrStack τ w4)), (0, .ref (r 10)), (1, .int a0), (2, .int w2), (3, .int w3), (4, .int w4), (5, .int w5)]) hx hb dX0_single_73 hl (by decide) rfl (fun ls hl => ?_)
    exact J_c75 τ w2 w3 w4 w5 (F_X8_registerOrStack τ w4) H locs ls hf hP hD hS (lv_sub hl [1, 2, 3, 4, 5, 6, 0] rfl)
  have J_c37 : ∀ (τ : XS) (w2 : Int32) (w3 : Int32) (w4 : Int32) (H : Heap) (locs : List Loc) (ls : Array Slot), F_X0_single_c37 τ a0 w2 w3 w4 = some res → va_P z.1 vwCl (xW z r τ) H → va_D A (xW z r τ) → va_S A s.heap H locs → lv_has ls 15 [(0, .ref (r 10)), (1, .int a0), (2, .int w2), (3, .int w3), (4, .int w4)] → W p l e { frames := 5, cells := 0, slots := 0, locals := 136 } s m ([.ref (r 10), .int a0] : List Value).toArray below meth c H locs 0 0 Q (F0 m 37 ls []) := by
    intro τ w2 w3 w4 H locs ls hf hP hD hS hl
    unfold F_X0_single_c37 at hf
    refine lv_aload_n hx hb dX0_single_37 rfl (lv_at hl 0 rfl) ?_
    refine lv_iload hx hb dX0_single_38 (lv_at hl 4 rfl) ?_
    refine k_X0_stackIsCrooked (a0 := w4) S hK hP tl_X0_31 ⟨Nat.le_of_ble_eq_true rfl, Nat.le_of_ble_eq_true rfl⟩ hl.1 (Nat.le_of_ble_eq_true rfl) dX0_single_40 ?_
    refine gz_eq (tgt := 58) hx hb dX0_single_43 (by decide) (fun c_43 => ?_) (fun c_43 => ?_)
    · rw [if_neg c_43] at hf
      refine lv_iload_n hx hb dX0_single_58 rfl (lv_at hl 1 rfl) ?_
      refine k_X0_change (a0 := a0) S tl_X0_40 ⟨Nat.le_of_ble_eq_true rfl, Nat.le_of_ble_eq_true rfl⟩ hl.1 (Nat.le_of_ble_eq_true rfl) dX0_single_59 ?_
      refine lv_istore (lv' := [(5, .int (F_X0_change a0)), (0, .ref (r 10)), (1, .int a0), (2, .int w2), (3, .int w3), (4, .int w4)]) hx hb dX0_single_62 hl (by decide) rfl (fun ls hl => ?_)
      exact J_c64 τ w2 w3 w4 (F_X0_change a0) H locs ls hf hP hD hS (lv_sub hl [1, 2, 3, 4, 5, 0] rfl)
    · rw [if_pos c_43] at hf
      refine lv_aload_n hx hb dX0_single_46 rfl (lv_at hl 0 rfl) ?_
      refine fg_X0_state S hK hP tf_X0_13 dX0_single_47 ?_
      refine lv_bipush (v := 38) hx hb dX0_single_50 (by decide) ?_
      refine lv_iconst (v := 0) hx hb dX0_single_52 (by decide) ?_
      refine k_X8_raise (a0 := (38 : Int32)) (a1 := (0 : Int32)) S hK hA hP hD hS tl_X0_34 ⟨Nat.le_of_ble_eq_true rfl, Nat.le_of_ble_eq_true rfl⟩ hl.1 (Nat.le_of_ble_eq_true rfl) dX0_single_53 (fun H locs hP hD hS => ?_)
      refine lv_iconst (v := 1) hx hb dX0_single_56 (by decide) ?_
      exact hend true (F_X8_raise τ (38 : Int32) (0 : Int32)) H locs 57 ls (Option.some.inj hf) hP hD hS dX0_single_57
  have J_c13 : ∀ (τ : XS) (w2 : Int32) (w3 : Int32) (H : Heap) (locs : List Loc) (ls : Array Slot), F_X0_single_c13 τ a0 w2 w3 = some res → va_P z.1 vwCl (xW z r τ) H → va_D A (xW z r τ) → va_S A s.heap H locs → lv_has ls 15 [(0, .ref (r 10)), (1, .int a0), (2, .int w2), (3, .int w3)] → W p l e { frames := 5, cells := 0, slots := 0, locals := 136 } s m ([.ref (r 10), .int a0] : List Value).toArray below meth c H locs 0 0 Q (F0 m 13 ls []) := by
    intro τ w2 w3 H locs ls hf hP hD hS hl
    unfold F_X0_single_c13 at hf
    refine lv_iload_n hx hb dX0_single_13 rfl (lv_at hl 1 rfl) ?_
    refine k_X0_isSingle (a0 := a0) S tl_X0_27 ⟨Nat.le_of_ble_eq_true rfl, Nat.le_of_ble_eq_true rfl⟩ hl.1 (Nat.le_of_ble_eq_true rfl) dX0_single_14 ?_
    refine gz_eq (tgt := 27) hx hb dX0_single_17 (by decide) (fun c_17 => ?_) (fun c_17 => ?_)
    · rw [if_neg c_17] at hf
      refine lv_iconst (v := 0) hx hb dX0_single_27 (by decide) ?_
      exact hend false τ H locs 28 ls (Option.some.inj hf) hP hD hS dX0_single_28
    · rw [if_pos c_17] at hf
      refine lv_iload_n hx hb dX0_single_20 rfl (lv_at hl 2 rfl) ?_
      refine lv_iload_n hx hb dX0_single_21 rfl (lv_at hl 3 rfl) ?_
      refine lv_iadd hx hb dX0_single_22 ?_
      refine lv_iconst (v := 4) hx hb dX0_single_23 (by decide) ?_
      refine lv_icmp_le (tgt := 29) hx hb dX0_single_24 (by decide) (fun c_24 => ?_) (fun c_24 => ?_)
      · rw [if_pos c_24] at hf
        refine lv_iload_n hx hb dX0_single_29 rfl (lv_at hl 1 rfl) ?_
        refine lv_iconst (v := 5) hx hb dX0_single_30 (by decide) ?_
        refine lv_iconst (v := 5) hx hb dX0_single_31 (by decide) ?_
        refine k_X1_field (a0 := a0) (a1 := (5 : Int32)) (a2 := (5 : Int32)) S tl_X0_21 ⟨Nat.le_of_ble_eq_true rfl, Nat.le_of_ble_eq_true rfl⟩ hl.1 (Nat.le_of_ble_eq_true rfl) dX0_single_32 ?_
        refine lv_istore (lv' := [(4, .int (F_X1_field a0 (5 : Int32) (5 : Int32))), (0, .ref (r 10)), (1, .int a0), (2, .int w2), (3, .int w3)]) hx hb dX0_single_35 hl (by decide) rfl (fun ls hl => ?_)
        exact J_c37 τ w2 w3 (F_X1_field a0 (5 : Int32) (5 : Int32)) H locs ls hf hP hD hS (lv_sub hl [1, 2, 3, 4, 0] rfl)
      · rw [if_neg c_24] at hf
        refine lv_iconst (v := 0) hx hb dX0_single_27 (by decide) ?_
        exact hend false τ H locs 28 ls (Option.some.inj hf) hP hD hS dX0_single_28
  have J_c5 : ∀ (τ : XS) (w2 : Int32) (H : Heap) (locs : List Loc) (ls : Array Slot), F_X0_single_c5 τ a0 w2 = some res → va_P z.1 vwCl (xW z r τ) H → va_D A (xW z r τ) → va_S A s.heap H locs → lv_has ls 15 [(0, .ref (r 10)), (1, .int a0), (2, .int w2)] → W p l e { frames := 5, cells := 0, slots := 0, locals := 136 } s m ([.ref (r 10), .int a0] : List Value).toArray below meth c H locs 0 0 Q (F0 m 5 ls []) := by
    intro τ w2 H locs ls hf hP hD hS hl
    unfold F_X0_single_c5 at hf
    refine lv_iload_n hx hb dX0_single_5 rfl (lv_at hl 1 rfl) ?_
    refine lv_bipush (v := 22) hx hb dX0_single_6 (by decide) ?_
    refine lv_iconst (v := 2) hx hb dX0_single_8 (by decide) ?_
    refine k_X1_field (a0 := a0) (a1 := (22 : Int32)) (a2 := (2 : Int32)) S tl_X0_21 ⟨Nat.le_of_ble_eq_true rfl, Nat.le_of_ble_eq_true rfl⟩ hl.1 (Nat.le_of_ble_eq_true rfl) dX0_single_9 ?_
    refine lv_istore_n (lv' := [(3, .int (F_X1_field a0 (22 : Int32) (2 : Int32))), (0, .ref (r 10)), (1, .int a0), (2, .int w2)]) hx hb dX0_single_12 rfl hl (by decide) rfl (fun ls hl => ?_)
    exact J_c13 τ w2 (F_X1_field a0 (22 : Int32) (2 : Int32)) H locs ls hf hP hD hS (lv_sub hl [1, 2, 3, 0] rfl)
  unfold F_X0_single at hf
  refine lv_iload_n hx hb dX0_single_0 rfl (lv_at hl 1 rfl) ?_
  refine lv_bipush (v := 30) hx hb dX0_single_1 (by decide) ?_
  refine lv_iushr (v := (j_iushr a0 (30 : Int32))) hx hb dX0_single_3 rfl ?_
  refine lv_istore_n (lv' := [(2, .int (j_iushr a0 (30 : Int32))), (0, .ref (r 10)), (1, .int a0)]) hx hb dX0_single_4 rfl hl (by decide) rfl (fun ls hl => ?_)
  exact J_c5 σ (j_iushr a0 (30 : Int32)) H locs ls hf hP hD hS (lv_sub hl [1, 2, 0] rfl)
theorem k_X0_single {p : Program} {l : Launch} {e : Env} {R : Room} {s : State} {m : MethodId} {args : Array Value} {below : List Frame} {meth : Method} {c : Code} {H : Heap} {locs : List Loc} {Q : State → Prop} {cc : ByteArray} {pc : Nat} {ls : Array Slot} {rest : List Value} {own : String} {index nL : Nat} {A : Nat → Prop} {z : Cx} {r : Nat → Nat} {σ : XS} {a0 : Int32} {res : Bool × XS} (hres : F_X0_single σ a0 = some res) (S : CallFix p m c cc nL s args tbG own) (hK : va_K z.1 vwCl (cxT z) s) (hA : ∀ q, s.heap.size ≤ q → A q) (hP : va_P z.1 vwCl (xW z r σ) H) (hD : va_D A (xW z r σ)) (hS : va_S A s.heap H locs) (hl : Cond.methodLink own index yX0_single ∈ tbG) (hR : 5 + 1 ≤ R.frames ∧ 8 + (15 + 11) + 136 ≤ R.locals) (hsz : ls.size = nL) (hcat : (rest.map fun v => v.category).sum ≤ 8) (hdg : decode cc pc = .ok (.invokevirtual index, 3)) (kk : ∀ (H : Heap) (locs : List Loc), va_P z.1 vwCl (xW z r res.2) H → va_D A (xW z r res.2) → va_S A s.heap H locs → W p l e R s m args below meth c H locs 0 0 Q (F0 m (pc + 3) ls (.int (zB res.1) :: rest))) : W p l e R s m args below meth c H locs 0 0 Q (F0 m pc ls (.int a0 :: .ref (r 10) :: rest)) :=
  km (As := [.int a0]) (ov := some (.int (zB res.1))) (w' := xW z r res.2) (q0 := 10) (ci := 0) S hK hA hP hD hS (c_X0_single l z r σ a0 H.size _ hres) ⟨tb_cB 1 S.2.2.2.2 tc_X0_single ti_X0 hl rfl rfl (by decide +kernel) hR, S.2.2.2.2 _ tm_X0_single, S.2.2.2.2 _ te_X0_single⟩ rfl rfl rfl rfl hsz rfl hcat hdg kk

theorem dX0_pair_0 : decode cX0_pair 0 = .ok (.iload_n 1, 1) := by decide +kernel
theorem dX0_pair_1 : decode cX0_pair 1 = .ok (.bipush 30, 2) := by decide +kernel
theorem dX0_pair_3 : decode cX0_pair 3 = .ok (.iushr, 1) := by decide +kernel
theorem dX0_pair_4 : decode cX0_pair 4 = .ok (.istore_n 2, 1) := by decide +kernel
theorem dX0_pair_5 : decode cX0_pair 5 = .ok (.iload_n 1, 1) := by decide +kernel
theorem dX0_pair_6 : decode cX0_pair 6 = .ok (.bipush 23, 2) := by decide +kernel
theorem dX0_pair_8 : decode cX0_pair 8 = .ok (.iconst 2, 1) := by decide +kernel
theorem dX0_pair_9 : decode cX0_pair 9 = .ok (.invokestatic 21, 3) := by decide +kernel
theorem dX0_pair_12 : decode cX0_pair 12 = .ok (.istore_n 3, 1) := by decide +kernel
theorem dX0_pair_13 : decode cX0_pair 13 = .ok (.iload_n 1, 1) := by decide +kernel
theorem dX0_pair_14 : decode cX0_pair 14 = .ok (.bipush 22, 2) := by decide +kernel
theorem dX0_pair_16 : decode cX0_pair 16 = .ok (.invokestatic 79, 3) := by decide +kernel
theorem dX0_pair_19 : decode cX0_pair 19 = .ok (.istore 4, 2) := by decide +kernel
theorem dX0_pair_21 : decode cX0_pair 21 = .ok (.iload_n 1, 1) := by decide +kernel
theorem dX0_pair_22 : decode cX0_pair 22 = .ok (.bipush 29, 2) := by decide +kernel
theorem dX0_pair_24 : decode cX0_pair 24 = .ok (.invokestatic 79, 3) := by decide +kernel
theorem dX0_pair_27 : decode cX0_pair 27 = .ok (.ifCond .eq 22, 3) := by decide +kernel
theorem dX0_pair_30 : decode cX0_pair 30 = .ok (.iload_n 2, 1) := by decide +kernel
theorem dX0_pair_31 : decode cX0_pair 31 = .ok (.iconst 3, 1) := by decide +kernel
theorem dX0_pair_32 : decode cX0_pair 32 = .ok (.if_icmp .eq 17, 3) := by decide +kernel
theorem dX0_pair_35 : decode cX0_pair 35 = .ok (.iload_n 3, 1) := by decide +kernel
theorem dX0_pair_36 : decode cX0_pair 36 = .ok (.ifCond .eq 13, 3) := by decide +kernel
theorem dX0_pair_39 : decode cX0_pair 39 = .ok (.iload_n 2, 1) := by decide +kernel
theorem dX0_pair_40 : decode cX0_pair 40 = .ok (.iconst 1, 1) := by decide +kernel
theorem dX0_pair_41 : decode cX0_pair 41 = .ok (.if_icmp .ne 10, 3) := by decide +kernel
theorem dX0_pair_44 : decode cX0_pair 44 = .ok (.iload 4, 2) := by decide +kernel
theorem dX0_pair_46 : decode cX0_pair 46 = .ok (.ifCond .ne 5, 3) := by decide +kernel
theorem dX0_pair_49 : decode cX0_pair 49 = .ok (.iconst 0, 1) := by decide +kernel
theorem dX0_pair_50 : decode cX0_pair 50 = .ok (.ireturn, 1) := by decide +kernel
theorem dX0_pair_51 : decode cX0_pair 51 = .ok (.iload_n 1, 1) := by decide +kernel
theorem dX0_pair_52 : decode cX0_pair 52 = .ok (.iconst 5, 1) := by decide +kernel
theorem dX0_pair_53 : decode cX0_pair 53 = .ok (.iconst 5, 1) := by decide +kernel
theorem dX0_pair_54 : decode cX0_pair 54 = .ok (.invokestatic 21, 3) := by decide +kernel
theorem dX0_pair_57 : decode cX0_pair 57 = .ok (.istore 5, 2) := by decide +kernel
theorem dX0_pair_59 : decode cX0_pair 59 = .ok (.aload_n 0, 1) := by decide +kernel
theorem dX0_pair_60 : decode cX0_pair 60 = .ok (.iload 5, 2) := by decide +kernel
theorem dX0_pair_62 : decode cX0_pair 62 = .ok (.invokevirtual 31, 3) := by decide +kernel
theorem dX0_pair_65 : decode cX0_pair 65 = .ok (.ifCond .eq 15, 3) := by decide +kernel
theorem dX0_pair_68 : decode cX0_pair 68 = .ok (.aload_n 0, 1) := by decide +kernel
theorem dX0_pair_69 : decode cX0_pair 69 = .ok (.getfield 13, 3) := by decide +kernel
theorem dX0_pair_72 : decode cX0_pair 72 = .ok (.bipush 38, 2) := by decide +kernel
theorem dX0_pair_74 : decode cX0_pair 74 = .ok (.iconst 0, 1) := by decide +kernel
theorem dX0_pair_75 : decode cX0_pair 75 = .ok (.invokevirtual 34, 3) := by decide +kernel
theorem dX0_pair_78 : decode cX0_pair 78 = .ok (.iconst 1, 1) := by decide +kernel
theorem dX0_pair_79 : decode cX0_pair 79 = .ok (.ireturn, 1) := by decide +kernel
theorem dX0_pair_80 : decode cX0_pair 80 = .ok (.iload_n 2, 1) := by decide +kernel
theorem dX0_pair_81 : decode cX0_pair 81 = .ok (.iconst 2, 1) := by decide +kernel
theorem dX0_pair_82 : decode cX0_pair 82 = .ok (.if_icmp .ne 8, 3) := by decide +kernel
theorem dX0_pair_85 : decode cX0_pair 85 = .ok (.bipush 8, 2) := by decide +kernel
theorem dX0_pair_87 : decode cX0_pair 87 = .ok (.goto 4, 3) := by decide +kernel
theorem dX0_pair_90 : decode cX0_pair 90 = .ok (.iconst 4, 1) := by decide +kernel
theorem dX0_pair_91 : decode cX0_pair 91 = .ok (.istore 6, 2) := by decide +kernel
theorem dX0_pair_93 : decode cX0_pair 93 = .ok (.aload_n 0, 1) := by decide +kernel
theorem dX0_pair_94 : decode cX0_pair 94 = .ok (.getfield 13, 3) := by decide +kernel
theorem dX0_pair_97 : decode cX0_pair 97 = .ok (.iload 5, 2) := by decide +kernel
theorem dX0_pair_99 : decode cX0_pair 99 = .ok (.invokevirtual 44, 3) := by decide +kernel
theorem dX0_pair_102 : decode cX0_pair 102 = .ok (.lstore 7, 2) := by decide +kernel
theorem dX0_pair_104 : decode cX0_pair 104 = .ok (.lload 7, 2) := by decide +kernel
theorem dX0_pair_106 : decode cX0_pair 106 = .ok (.iload_n 1, 1) := by decide +kernel
theorem dX0_pair_107 : decode cX0_pair 107 = .ok (.bipush 15, 2) := by decide +kernel
theorem dX0_pair_109 : decode cX0_pair 109 = .ok (.bipush 7, 2) := by decide +kernel
theorem dX0_pair_111 : decode cX0_pair 111 = .ok (.invokestatic 83, 3) := by decide +kernel
theorem dX0_pair_114 : decode cX0_pair 114 = .ok (.iload 6, 2) := by decide +kernel
theorem dX0_pair_116 : decode cX0_pair 116 = .ok (.i2l, 1) := by decide +kernel
theorem dX0_pair_117 : decode cX0_pair 117 = .ok (.lmul, 1) := by decide +kernel
theorem dX0_pair_118 : decode cX0_pair 118 = .ok (.ladd, 1) := by decide +kernel
theorem dX0_pair_119 : decode cX0_pair 119 = .ok (.lstore 9, 2) := by decide +kernel
theorem dX0_pair_121 : decode cX0_pair 121 = .ok (.iload_n 3, 1) := by decide +kernel
theorem dX0_pair_122 : decode cX0_pair 122 = .ok (.iconst 1, 1) := by decide +kernel
theorem dX0_pair_123 : decode cX0_pair 123 = .ok (.if_icmp .ne 8, 3) := by decide +kernel
theorem dX0_pair_126 : decode cX0_pair 126 = .ok (.lload 7, 2) := by decide +kernel
theorem dX0_pair_128 : decode cX0_pair 128 = .ok (.goto 5, 3) := by decide +kernel
theorem dX0_pair_131 : decode cX0_pair 131 = .ok (.lload 9, 2) := by decide +kernel
theorem dX0_pair_133 : decode cX0_pair 133 = .ok (.lstore 11, 2) := by decide +kernel
theorem dX0_pair_135 : decode cX0_pair 135 = .ok (.aload_n 0, 1) := by decide +kernel
theorem dX0_pair_136 : decode cX0_pair 136 = .ok (.lload 11, 2) := by decide +kernel
theorem dX0_pair_138 : decode cX0_pair 138 = .ok (.iload 6, 2) := by decide +kernel
theorem dX0_pair_140 : decode cX0_pair 140 = .ok (.iload 4, 2) := by decide +kernel
theorem dX0_pair_142 : decode cX0_pair 142 = .ok (.invokevirtual 51, 3) := by decide +kernel
theorem dX0_pair_145 : decode cX0_pair 145 = .ok (.istore 13, 2) := by decide +kernel
theorem dX0_pair_147 : decode cX0_pair 147 = .ok (.iload 13, 2) := by decide +kernel
theorem dX0_pair_149 : decode cX0_pair 149 = .ok (.ifCond .ge 5, 3) := by decide +kernel
theorem dX0_pair_152 : decode cX0_pair 152 = .ok (.iconst 1, 1) := by decide +kernel
theorem dX0_pair_153 : decode cX0_pair 153 = .ok (.ireturn, 1) := by decide +kernel
theorem dX0_pair_154 : decode cX0_pair 154 = .ok (.aload_n 0, 1) := by decide +kernel
theorem dX0_pair_155 : decode cX0_pair 155 = .ok (.lload 11, 2) := by decide +kernel
theorem dX0_pair_157 : decode cX0_pair 157 = .ok (.iload 6, 2) := by decide +kernel
theorem dX0_pair_159 : decode cX0_pair 159 = .ok (.i2l, 1) := by decide +kernel
theorem dX0_pair_160 : decode cX0_pair 160 = .ok (.ladd, 1) := by decide +kernel
theorem dX0_pair_161 : decode cX0_pair 161 = .ok (.iload 6, 2) := by decide +kernel
theorem dX0_pair_163 : decode cX0_pair 163 = .ok (.iload 4, 2) := by decide +kernel
theorem dX0_pair_165 : decode cX0_pair 165 = .ok (.invokevirtual 51, 3) := by decide +kernel
theorem dX0_pair_168 : decode cX0_pair 168 = .ok (.istore 14, 2) := by decide +kernel
theorem dX0_pair_170 : decode cX0_pair 170 = .ok (.iload 14, 2) := by decide +kernel
theorem dX0_pair_172 : decode cX0_pair 172 = .ok (.ifCond .ge 5, 3) := by decide +kernel
theorem dX0_pair_175 : decode cX0_pair 175 = .ok (.iconst 1, 1) := by decide +kernel
theorem dX0_pair_176 : decode cX0_pair 176 = .ok (.ireturn, 1) := by decide +kernel
theorem dX0_pair_177 : decode cX0_pair 177 = .ok (.iload 4, 2) := by decide +kernel
theorem dX0_pair_179 : decode cX0_pair 179 = .ok (.ifCond .ne 54, 3) := by decide +kernel
theorem dX0_pair_182 : decode cX0_pair 182 = .ok (.aload_n 0, 1) := by decide +kernel
theorem dX0_pair_183 : decode cX0_pair 183 = .ok (.getfield 7, 3) := by decide +kernel
theorem dX0_pair_186 : decode cX0_pair 186 = .ok (.iload 13, 2) := by decide +kernel
theorem dX0_pair_188 : decode cX0_pair 188 = .ok (.i2l, 1) := by decide +kernel
theorem dX0_pair_189 : decode cX0_pair 189 = .ok (.iload 6, 2) := by decide +kernel
theorem dX0_pair_191 : decode cX0_pair 191 = .ok (.aload_n 0, 1) := by decide +kernel
theorem dX0_pair_192 : decode cX0_pair 192 = .ok (.getfield 13, 3) := by decide +kernel
theorem dX0_pair_195 : decode cX0_pair 195 = .ok (.iload_n 1, 1) := by decide +kernel
theorem dX0_pair_196 : decode cX0_pair 196 = .ok (.iconst 0, 1) := by decide +kernel
theorem dX0_pair_197 : decode cX0_pair 197 = .ok (.iconst 5, 1) := by decide +kernel
theorem dX0_pair_198 : decode cX0_pair 198 = .ok (.invokestatic 21, 3) := by decide +kernel
theorem dX0_pair_201 : decode cX0_pair 201 = .ok (.invokevirtual 55, 3) := by decide +kernel
theorem dX0_pair_204 : decode cX0_pair 204 = .ok (.invokevirtual 58, 3) := by decide +kernel
theorem dX0_pair_207 : decode cX0_pair 207 = .ok (.aload_n 0, 1) := by decide +kernel
theorem dX0_pair_208 : decode cX0_pair 208 = .ok (.getfield 7, 3) := by decide +kernel
theorem dX0_pair_211 : decode cX0_pair 211 = .ok (.iload 14, 2) := by decide +kernel
theorem dX0_pair_213 : decode cX0_pair 213 = .ok (.i2l, 1) := by decide +kernel
theorem dX0_pair_214 : decode cX0_pair 214 = .ok (.iload 6, 2) := by decide +kernel
theorem dX0_pair_216 : decode cX0_pair 216 = .ok (.aload_n 0, 1) := by decide +kernel
theorem dX0_pair_217 : decode cX0_pair 217 = .ok (.getfield 13, 3) := by decide +kernel
theorem dX0_pair_220 : decode cX0_pair 220 = .ok (.iload_n 1, 1) := by decide +kernel
theorem dX0_pair_221 : decode cX0_pair 221 = .ok (.bipush 10, 2) := by decide +kernel
theorem dX0_pair_223 : decode cX0_pair 223 = .ok (.iconst 5, 1) := by decide +kernel
theorem dX0_pair_224 : decode cX0_pair 224 = .ok (.invokestatic 21, 3) := by decide +kernel
theorem dX0_pair_227 : decode cX0_pair 227 = .ok (.invokevirtual 55, 3) := by decide +kernel
theorem dX0_pair_230 : decode cX0_pair 230 = .ok (.invokevirtual 58, 3) := by decide +kernel
theorem dX0_pair_233 : decode cX0_pair 233 = .ok (.iload_n 3, 1) := by decide +kernel
theorem dX0_pair_234 : decode cX0_pair 234 = .ok (.iconst 1, 1) := by decide +kernel
theorem dX0_pair_235 : decode cX0_pair 235 = .ok (.if_icmp .eq 8, 3) := by decide +kernel
theorem dX0_pair_238 : decode cX0_pair 238 = .ok (.iload_n 3, 1) := by decide +kernel
theorem dX0_pair_239 : decode cX0_pair 239 = .ok (.iconst 3, 1) := by decide +kernel
theorem dX0_pair_240 : decode cX0_pair 240 = .ok (.if_icmp .ne 14, 3) := by decide +kernel
theorem dX0_pair_243 : decode cX0_pair 243 = .ok (.aload_n 0, 1) := by decide +kernel
theorem dX0_pair_244 : decode cX0_pair 244 = .ok (.getfield 13, 3) := by decide +kernel
theorem dX0_pair_247 : decode cX0_pair 247 = .ok (.iload 5, 2) := by decide +kernel
theorem dX0_pair_249 : decode cX0_pair 249 = .ok (.lload 9, 2) := by decide +kernel
theorem dX0_pair_251 : decode cX0_pair 251 = .ok (.invokevirtual 64, 3) := by decide +kernel
theorem dX0_pair_254 : decode cX0_pair 254 = .ok (.iload 4, 2) := by decide +kernel
theorem dX0_pair_256 : decode cX0_pair 256 = .ok (.ifCond .eq 80, 3) := by decide +kernel
theorem dX0_pair_259 : decode cX0_pair 259 = .ok (.iload_n 2, 1) := by decide +kernel
theorem dX0_pair_260 : decode cX0_pair 260 = .ok (.iconst 1, 1) := by decide +kernel
theorem dX0_pair_261 : decode cX0_pair 261 = .ok (.if_icmp .ne 7, 3) := by decide +kernel
theorem dX0_pair_264 : decode cX0_pair 264 = .ok (.iconst 2, 1) := by decide +kernel
theorem dX0_pair_265 : decode cX0_pair 265 = .ok (.goto 4, 3) := by decide +kernel
theorem dX0_pair_268 : decode cX0_pair 268 = .ok (.iconst 1, 1) := by decide +kernel
theorem dX0_pair_269 : decode cX0_pair 269 = .ok (.istore 15, 2) := by decide +kernel
theorem dX0_pair_271 : decode cX0_pair 271 = .ok (.aload_n 0, 1) := by decide +kernel
theorem dX0_pair_272 : decode cX0_pair 272 = .ok (.getfield 13, 3) := by decide +kernel
theorem dX0_pair_275 : decode cX0_pair 275 = .ok (.iload_n 1, 1) := by decide +kernel
theorem dX0_pair_276 : decode cX0_pair 276 = .ok (.iconst 0, 1) := by decide +kernel
theorem dX0_pair_277 : decode cX0_pair 277 = .ok (.iconst 5, 1) := by decide +kernel
theorem dX0_pair_278 : decode cX0_pair 278 = .ok (.invokestatic 21, 3) := by decide +kernel
theorem dX0_pair_281 : decode cX0_pair 281 = .ok (.aload_n 0, 1) := by decide +kernel
theorem dX0_pair_282 : decode cX0_pair 282 = .ok (.getfield 7, 3) := by decide +kernel
theorem dX0_pair_285 : decode cX0_pair 285 = .ok (.iload 13, 2) := by decide +kernel
theorem dX0_pair_287 : decode cX0_pair 287 = .ok (.i2l, 1) := by decide +kernel
theorem dX0_pair_288 : decode cX0_pair 288 = .ok (.iload 6, 2) := by decide +kernel
theorem dX0_pair_290 : decode cX0_pair 290 = .ok (.invokevirtual 68, 3) := by decide +kernel
theorem dX0_pair_293 : decode cX0_pair 293 = .ok (.iload 6, 2) := by decide +kernel
theorem dX0_pair_295 : decode cX0_pair 295 = .ok (.iload 15, 2) := by decide +kernel
theorem dX0_pair_297 : decode cX0_pair 297 = .ok (.invokestatic 72, 3) := by decide +kernel
theorem dX0_pair_300 : decode cX0_pair 300 = .ok (.invokevirtual 76, 3) := by decide +kernel
theorem dX0_pair_303 : decode cX0_pair 303 = .ok (.aload_n 0, 1) := by decide +kernel
theorem dX0_pair_304 : decode cX0_pair 304 = .ok (.getfield 13, 3) := by decide +kernel
theorem dX0_pair_307 : decode cX0_pair 307 = .ok (.iload_n 1, 1) := by decide +kernel
theorem dX0_pair_308 : decode cX0_pair 308 = .ok (.bipush 10, 2) := by decide +kernel
theorem dX0_pair_310 : decode cX0_pair 310 = .ok (.iconst 5, 1) := by decide +kernel
theorem dX0_pair_311 : decode cX0_pair 311 = .ok (.invokestatic 21, 3) := by decide +kernel
theorem dX0_pair_314 : decode cX0_pair 314 = .ok (.aload_n 0, 1) := by decide +kernel
theorem dX0_pair_315 : decode cX0_pair 315 = .ok (.getfield 7, 3) := by decide +kernel
theorem dX0_pair_318 : decode cX0_pair 318 = .ok (.iload 14, 2) := by decide +kernel
theorem dX0_pair_320 : decode cX0_pair 320 = .ok (.i2l, 1) := by decide +kernel
theorem dX0_pair_321 : decode cX0_pair 321 = .ok (.iload 6, 2) := by decide +kernel
theorem dX0_pair_323 : decode cX0_pair 323 = .ok (.invokevirtual 68, 3) := by decide +kernel
theorem dX0_pair_326 : decode cX0_pair 326 = .ok (.iload 6, 2) := by decide +kernel
theorem dX0_pair_328 : decode cX0_pair 328 = .ok (.iload 15, 2) := by decide +kernel
theorem dX0_pair_330 : decode cX0_pair 330 = .ok (.invokestatic 72, 3) := by decide +kernel
theorem dX0_pair_333 : decode cX0_pair 333 = .ok (.invokevirtual 76, 3) := by decide +kernel
theorem dX0_pair_336 : decode cX0_pair 336 = .ok (.iconst 1, 1) := by decide +kernel
theorem dX0_pair_337 : decode cX0_pair 337 = .ok (.ireturn, 1) := by decide +kernel
def F_X0_pair_c269 (τ : XS) (a0 : Int32) (w6 : Int32) (w13 : Int32) (w14 : Int32) (s0 : Int32) : Option (Bool × XS) := ((F_X4_read τ w13.toInt64 w6).bind fun v3 => ((F_X4_read (F_X8_putRegister τ (F_X1_field a0 (0 : Int32) (5 : Int32)) (F_X0_extended v3 w6 s0)) w14.toInt64 w6).bind fun v4 => some ((true, (F_X8_putRegister (F_X8_putRegister τ (F_X1_field a0 (0 : Int32) (5 : Int32)) (F_X0_extended v3 w6 s0)) (F_X1_field a0 (10 : Int32) (5 : Int32)) (F_X0_extended v4 w6 s0))))))
def F_X0_pair_c254 (τ : XS) (a0 : Int32) (w2 : Int32) (w4 : Bool) (w6 : Int32) (w13 : Int32) (w14 : Int32) : Option (Bool × XS) := (if w4 = true then (if w2 = (1 : Int32) then (F_X0_pair_c269 τ a0 w6 w13 w14 (2 : Int32)) else (F_X0_pair_c269 τ a0 w6 w13 w14 (1 : Int32))) else some ((true, τ)))
def F_X0_pair_c243 (τ : XS) (a0 : Int32) (w2 : Int32) (w4 : Bool) (w5 : Int32) (w6 : Int32) (w9 : Int64) (w13 : Int32) (w14 : Int32) : Option (Bool × XS) := (F_X0_pair_c254 (F_X8_putRegisterOrStack τ w5 w9) a0 w2 w4 w6 w13 w14)
def F_X0_pair_c233 (τ : XS) (a0 : Int32) (w2 : Int32) (w3 : Int32) (w4 : Bool) (w5 : Int32) (w6 : Int32) (w9 : Int64) (w13 : Int32) (w14 : Int32) : Option (Bool × XS) := (if w3 = (1 : Int32) then (F_X0_pair_c243 τ a0 w2 w4 w5 w6 w9 w13 w14) else (if w3 = (3 : Int32) then (F_X0_pair_c243 τ a0 w2 w4 w5 w6 w9 w13 w14) else (F_X0_pair_c254 τ a0 w2 w4 w6 w13 w14)))
def F_X0_pair_c133 (τ : XS) (a0 : Int32) (w2 : Int32) (w3 : Int32) (w4 : Bool) (w5 : Int32) (w6 : Int32) (w9 : Int64) (s0 : Int64) : Option (Bool × XS) := ((F_X0_find τ s0 w6 w4).bind fun v1 => (if 0 ≤ v1.1 then ((F_X0_find v1.2 (s0 + w6.toInt64) w6 w4).bind fun v2 => (if 0 ≤ v2.1 then (if w4 = true then (F_X0_pair_c233 v2.2 a0 w2 w3 w4 w5 w6 w9 v1.1 v2.1) else ((F_X4_write v2.2 v1.1.toInt64 w6 (F_X8_register v2.2 (F_X1_field a0 (0 : Int32) (5 : Int32)))).bind fun v5 => ((F_X4_write v5 v2.1.toInt64 w6 (F_X8_register v5 (F_X1_field a0 (10 : Int32) (5 : Int32)))).bind fun v6 => (F_X0_pair_c233 v6 a0 w2 w3 w4 w5 w6 w9 v1.1 v2.1)))) else some ((true, v2.2)))) else some ((true, v1.2))))
def F_X0_pair_c121 (τ : XS) (a0 : Int32) (w2 : Int32) (w3 : Int32) (w4 : Bool) (w5 : Int32) (w6 : Int32) (w7 : Int64) (w9 : Int64) : Option (Bool × XS) := (if w3 = (1 : Int32) then (F_X0_pair_c133 τ a0 w2 w3 w4 w5 w6 w9 w7) else (F_X0_pair_c133 τ a0 w2 w3 w4 w5 w6 w9 w9))
def F_X0_pair_c104 (τ : XS) (a0 : Int32) (w2 : Int32) (w3 : Int32) (w4 : Bool) (w5 : Int32) (w6 : Int32) (w7 : Int64) : Option (Bool × XS) := (F_X0_pair_c121 τ a0 w2 w3 w4 w5 w6 w7 (w7 + ((F_X1_signedField a0 (15 : Int32) (7 : Int32)) * w6.toInt64)))
def F_X0_pair_c91 (τ : XS) (a0 : Int32) (w2 : Int32) (w3 : Int32) (w4 : Bool) (w5 : Int32) (s0 : Int32) : Option (Bool × XS) := (F_X0_pair_c104 τ a0 w2 w3 w4 w5 s0 (F_X8_registerOrStack τ w5))
def F_X0_pair_c59 (τ : XS) (a0 : Int32) (w2 : Int32) (w3 : Int32) (w4 : Bool) (w5 : Int32) : Option (Bool × XS) := (if (F_X0_stackIsCrooked τ w5) = true then some ((true, (F_X8_raise τ (38 : Int32) (0 : Int32)))) else (if w2 = (2 : Int32) then (F_X0_pair_c91 τ a0 w2 w3 w4 w5 (8 : Int32)) else (F_X0_pair_c91 τ a0 w2 w3 w4 w5 (4 : Int32))))
def F_X0_pair_c51 (τ : XS) (a0 : Int32) (w2 : Int32) (w3 : Int32) (w4 : Bool) : Option (Bool × XS) := (F_X0_pair_c59 τ a0 w2 w3 w4 (F_X1_field a0 (5 : Int32) (5 : Int32)))
def F_X0_pair_c21 (τ : XS) (a0 : Int32) (w2 : Int32) (w3 : Int32) (w4 : Bool) : Option (Bool × XS) := (if (F_X1_isOne a0 (29 : Int32)) = true then (if w2 = (3 : Int32) then some ((false, τ)) else (if w3 = 0 then some ((false, τ)) else (if w2 = (1 : Int32) then (if w4 = true then (F_X0_pair_c51 τ a0 w2 w3 w4) else some ((false, τ))) else (F_X0_pair_c51 τ a0 w2 w3 w4)))) else some ((false, τ)))
def F_X0_pair_c13 (τ : XS) (a0 : Int32) (w2 : Int32) (w3 : Int32) : Option (Bool × XS) := (F_X0_pair_c21 τ a0 w2 w3 (F_X1_isOne a0 (22 : Int32)))
def F_X0_pair_c5 (τ : XS) (a0 : Int32) (w2 : Int32) : Option (Bool × XS) := (F_X0_pair_c13 τ a0 w2 (F_X1_field a0 (23 : Int32) (2 : Int32)))
def F_X0_pair (σ : XS) (a0 : Int32) : Option (Bool × XS) := (F_X0_pair_c5 σ a0 (j_iushr a0 (30 : Int32)))
set_option maxHeartbeats 4000000 in
set_option maxRecDepth 100000 in
theorem c_X0_pair (l : Launch) (z : Cx) (r : Nat → Nat) (σ : XS) (a0 : Int32) (sz : Nat) (res : Bool × XS) (hf : F_X0_pair σ a0 = some res) : Met l yX0_pair (wsC yX0_pair cX0_pair 16 (some .boolean)) { frames := 5, cells := 0, slots := 0, locals := 136 } (mPc z (xW z r σ) sz [.ref (r 10), .int a0]) (gM z (va_A (xW z r σ) sz) (some (.int (zB res.1))) (xW z r res.2)) 0 0 (va_A (xW z r σ) sz) := by
  refine mk_m_z (own := RX0) (wf := xW z r) (by decide) rfl sz _ (Nat.le_of_ble_eq_true rfl) (fun p e s m below meth c A H locs Q ls S hK hA hP hD hS hl hend => ?_)
  have hx := S.1
  have hb := S.2.1
  have hown := S.2.2.2.1
  have hts := S.2.2.2.2
  have hl : lv_has ls 16 [(0, .ref (r 10)), (1, .int a0)] := hl
  have J_c269 : ∀ (τ : XS) (w6 : Int32) (w13 : Int32) (w14 : Int32) (s0 : Int32) (H : Heap) (locs : List Loc) (ls : Array Slot), F_X0_pair_c269 τ a0 w6 w13 w14 s0 = some res → va_P z.1 vwCl (xW z r τ) H → va_D A (xW z r τ) → va_S A s.heap H locs → lv_has ls 16 [(0, .ref (r 10)), (1, .int a0), (6, .int w6), (13, .int w13), (14, .int w14)] → W p l e { frames := 5, cells := 0, slots := 0, locals := 136 } s m ([.ref (r 10), .int a0] : List Value).toArray below meth c H locs 0 0 Q (F0 m 269 ls [.int s0]) := by
    intro τ w6 w13 w14 s0 H locs ls hf hP hD hS hl
    unfold F_X0_pair_c269 at hf
    refine lv_istore (lv' := [(15, .int s0), (0, .ref (r 10)), (1, .int a0), (6, .int w6), (13, .int w13), (14, .int w14)]) hx hb dX0_pair_269 hl (by decide) rfl (fun ls hl => ?_)
    refine lv_aload_n hx hb dX0_pair_271 rfl (lv_at hl 1 rfl) ?_
    refine fg_X0_state S hK hP tf_X0_13 dX0_pair_272 ?_
    refine lv_iload_n hx hb dX0_pair_275 rfl (lv_at hl 2 rfl) ?_
    refine lv_iconst (v := 0) hx hb dX0_pair_276 (by decide) ?_
    refine lv_iconst (v := 5) hx hb dX0_pair_277 (by decide) ?_
    refine k_X1_field (a0 := a0) (a1 := (0 : Int32)) (a2 := (5 : Int32)) S tl_X0_21 ⟨Nat.le_of_ble_eq_true rfl, Nat.le_of_ble_eq_true rfl⟩ hl.1 (Nat.le_of_ble_eq_true rfl) dX0_pair_278 ?_
    refine lv_aload_n hx hb dX0_pair_281 rfl (lv_at hl 1 rfl) ?_
    refine fg_X0_memory S hK hP tf_X0_7 dX0_pair_282 ?_
    refine lv_iload hx hb dX0_pair_285 (lv_at hl 4 rfl) ?_
    refine lv_i2l hx hb dX0_pair_287 rfl ?_
    refine lv_iload hx hb dX0_pair_288 (lv_at hl 3 rfl) ?_
    obtain ⟨v3, e_v3, hf⟩ := Option.bind_eq_some_iff.mp hf
    refine k_X4_read (a0 := w13.toInt64) (a1 := w6) (res := v3) (hres := e_v3) S hK hP tl_X0_68 ⟨Nat.le_of_ble_eq_true rfl, Nat.le_of_ble_eq_true rfl⟩ hl.1 (Nat.le_of_ble_eq_true rfl) dX0_pair_290 ?_
    refine lv_iload hx hb dX0_pair_293 (lv_at hl 3 rfl) ?_
    refine lv_iload hx hb dX0_pair_295 (lv_at hl 0 rfl) ?_
    refine k_X0_extended (a0 := v3) (a1 := w6) (a2 := s0) S tl_X0_72 ⟨Nat.le_of_ble_eq_true rfl, Nat.le_of_ble_eq_true rfl⟩ hl.1 (Nat.le_of_ble_eq_true rfl) dX0_pair_297 ?_
    refine k_X8_putRegister (a0 := (F_X1_field a0 (0 : Int32) (5 : Int32))) (a1 := (F_X0_extended v3 w6 s0)) S hK hA hP hD hS tl_X0_76 ⟨Nat.le_of_ble_eq_true rfl, Nat.le_of_ble_eq_true rfl⟩ hl.1 (Nat.le_of_ble_eq_true rfl) dX0_pair_300 (fun H locs hP hD hS => ?_)
    refine lv_aload_n hx hb dX0_pair_303 rfl (lv_at hl 1 rfl) ?_
    refine fg_X0_state S hK hP tf_X0_13 dX0_pair_304 ?_
    refine lv_iload_n hx hb dX0_pair_307 rfl (lv_at hl 2 rfl) ?_
    refine lv_bipush (v := 10) hx hb dX0_pair_308 (by decide) ?_
    refine lv_iconst (v := 5) hx hb dX0_pair_310 (by decide) ?_
    refine k_X1_field (a0 := a0) (a1 := (10 : Int32)) (a2 := (5 : Int32)) S tl_X0_21 ⟨Nat.le_of_ble_eq_true rfl, Nat.le_of_ble_eq_true rfl⟩ hl.1 (Nat.le_of_ble_eq_true rfl) dX0_pair_311 ?_
    refine lv_aload_n hx hb dX0_pair_314 rfl (lv_at hl 1 rfl) ?_
    refine fg_X0_memory S hK hP tf_X0_7 dX0_pair_315 ?_
    refine lv_iload hx hb dX0_pair_318 (lv_at hl 5 rfl) ?_
    refine lv_i2l hx hb dX0_pair_320 rfl ?_
    refine lv_iload hx hb dX0_pair_321 (lv_at hl 3 rfl) ?_
    obtain ⟨v4, e_v4, hf⟩ := Option.bind_eq_some_iff.mp hf
    refine k_X4_read (a0 := w14.toInt64) (a1 := w6) (res := v4) (hres := e_v4) S hK hP tl_X0_68 ⟨Nat.le_of_ble_eq_true rfl, Nat.le_of_ble_eq_true rfl⟩ hl.1 (Nat.le_of_ble_eq_true rfl) dX0_pair_323 ?_
    refine lv_iload hx hb dX0_pair_326 (lv_at hl 3 rfl) ?_
    refine lv_iload hx hb dX0_pair_328 (lv_at hl 0 rfl) ?_
    refine k_X0_extended (a0 := v4) (a1 := w6) (a2 := s0) S tl_X0_72 ⟨Nat.le_of_ble_eq_true rfl, Nat.le_of_ble_eq_true rfl⟩ hl.1 (Nat.le_of_ble_eq_true rfl) dX0_pair_330 ?_
    refine k_X8_putRegister (a0 := (F_X1_field a0 (10 : Int32) (5 : Int32))) (a1 := (F_X0_extended v4 w6 s0)) S hK hA hP hD hS tl_X0_76 ⟨Nat.le_of_ble_eq_true rfl, Nat.le_of_ble_eq_true rfl⟩ hl.1 (Nat.le_of_ble_eq_true rfl) dX0_pair_333 (fun H locs hP hD hS => ?_)
    refine lv_iconst (v := 1) hx hb dX0_pair_336 (by decide) ?_
    exact hend true (F_X8_putRegister (F_X8_putRegister τ (F_X1_field a0 (0 : Int32) (5 : Int32)) (F_X0_extended v3 w6 s0)) (F_X1_field a0 (10 : Int32) (5 : Int32)) (F_X0_extended v4 w6 s0)) H locs 337 ls (Option.some.inj hf) hP hD hS dX0_pair_337
  have J_c254 : ∀ (τ : XS) (w2 : Int32) (w4 : Bool) (w6 : Int32) (w13 : Int32) (w14 : Int32) (H : Heap) (locs : List Loc) (ls : Array Slot), F_X0_pair_c254 τ a0 w2 w4 w6 w13 w14 = some res → va_P z.1 vwCl (xW z r τ) H → va_D A (xW z r τ) → va_S A s.heap H locs → lv_has ls 16 [(0, .ref (r 10)), (1, .int a0), (2, .int w2), (4, .int (zB w4)), (6, .int w6), (13, .int w13), (14, .int w14)] → W p l e { frames := 5, cells := 0, slots := 0, locals := 136 } s m ([.ref (r 10), .int a0] : List Value).toArray below meth c H locs 0 0 Q (F0 m 254 ls []) := by
    intro τ w2 w4 w6 w13 w14 H locs ls hf hP hD hS hl
    unfold F_X0_pair_c254 at hf
    refine lv_iload hx hb dX0_pair_254 (lv_at hl 3 rfl) ?_
    refine gz_eq (tgt := 336) hx hb dX0_pair_256 (by decide) (fun c_256 => ?_) (fun c_256 => ?_)
    · rw [if_neg c_256] at hf
      refine lv_iconst (v := 1) hx hb dX0_pair_336 (by decide) ?_
      exact hend true τ H locs 337 ls (Option.some.inj hf) hP hD hS dX0_pair_337
    · rw [if_pos c_256] at hf
      refine lv_iload_n hx hb dX0_pair_259 rfl (lv_at hl 2 rfl) ?_
      refine lv_iconst (v := 1) hx hb dX0_pair_260 (by decide) ?_
      refine lv_icmp_ne (tgt := 268) hx hb dX0_pair_261 (by decide) (fun c_261 => ?_) (fun c_261 => ?_)
      · rw [if_neg c_261] at hf
        refine lv_iconst (v := 1) hx hb dX0_pair_268 (by decide) ?_
        exact J_c269 τ w6 w13 w14 (1 : Int32) H locs ls hf hP hD hS (lv_sub hl [0, 1, 4, 5, 6] rfl)
      · rw [if_pos c_261] at hf
        refine lv_iconst (v := 2) hx hb dX0_pair_264 (by decide) ?_
        refine lv_goto (tgt := 269) hx hb dX0_pair_265 (by decide) ?_
        exact J_c269 τ w6 w13 w14 (2 : Int32) H locs ls hf hP hD hS (lv_sub hl [0, 1, 4, 5, 6] rfl)
  have J_c243 : ∀ (τ : XS) (w2 : Int32) (w4 : Bool) (w5 : Int32) (w6 : Int32) (w9 : Int64) (w13 : Int32) (w14 : Int32) (H : Heap) (locs : List Loc) (ls : Array Slot), F_X0_pair_c243 τ a0 w2 w4 w5 w6 w9 w13 w14 = some res → va_P z.1 vwCl (xW z r τ) H → va_D A (xW z r τ) → va_S A s.heap H locs → lv_has ls 16 [(0, .ref (r 10)), (1, .int a0), (2, .int w2), (4, .int (zB w4)), (5, .int w5), (6, .int w6), (9, .long w9), (13, .int w13), (14, .int w14)] → W p l e { frames := 5, cells := 0, slots := 0, locals := 136 } s m ([.ref (r 10), .int a0] : List Value).toArray below meth c H locs 0 0 Q (F0 m 243 ls []) := by
    intro τ w2 w4 w5 w6 w9 w13 w14 H locs ls hf hP hD hS hl
    unfold F_X0_pair_c243 at hf
    refine lv_aload_n hx hb dX0_pair_243 rfl (lv_at hl 0 rfl) ?_
    refine fg_X0_state S hK hP tf_X0_13 dX0_pair_244 ?_
    refine lv_iload hx hb dX0_pair_247 (lv_at hl 4 rfl) ?_
    refine lv_lload hx hb dX0_pair_249 (lv_at hl 6 rfl) ?_
    refine k_X8_putRegisterOrStack (a0 := w5) (a1 := w9) S hK hA hP hD hS tl_X0_64 ⟨Nat.le_of_ble_eq_true rfl, Nat.le_of_ble_eq_true rfl⟩ hl.1 (Nat.le_of_ble_eq_true rfl) dX0_pair_251 (fun H locs hP hD hS => ?_)
    exact J_c254 (F_X8_putRegisterOrStack τ w5 w9) w2 w4 w6 w13 w14 H locs ls hf hP hD hS (lv_sub hl [0, 1, 2, 3, 5, 7, 8] rfl)
  have J_c233 : ∀ (τ : XS) (w2 : Int32) (w3 : Int32) (w4 : Bool) (w5 : Int32) (w6 : Int32) (w9 : Int64) (w13 : Int32) (w14 : Int32) (H : Heap) (locs : List Loc) (ls : Array Slot), F_X0_pair_c233 τ a0 w2 w3 w4 w5 w6 w9 w13 w14 = some res → va_P z.1 vwCl (xW z r τ) H → va_D A (xW z r τ) → va_S A s.heap H locs → lv_has ls 16 [(0, .ref (r 10)), (1, .int a0), (2, .int w2), (3, .int w3), (4, .int (zB w4)), (5, .int w5), (6, .int w6), (9, .long w9), (13, .int w13), (14, .int w14)] → W p l e { frames := 5, cells := 0, slots := 0, locals := 136 } s m ([.ref (r 10), .int a0] : List Value).toArray below meth c H locs 0 0 Q (F0 m 233 ls []) := by
    intro τ w2 w3 w4 w5 w6 w9 w13 w14 H locs ls hf hP hD hS hl
    unfold F_X0_pair_c233 at hf
    refine lv_iload_n hx hb dX0_pair_233 rfl (lv_at hl 3 rfl) ?_
    refine lv_iconst (v := 1) hx hb dX0_pair_234 (by decide) ?_
    refine lv_icmp_eq (tgt := 243) hx hb dX0_pair_235 (by decide) (fun c_235 => ?_) (fun c_235 => ?_)
    · rw [if_pos c_235] at hf
      exact J_c243 τ w2 w4 w5 w6 w9 w13 w14 H locs ls hf hP hD hS (lv_sub hl [0, 1, 2, 4, 5, 6, 7, 8, 9] rfl)
    · rw [if_neg c_235] at hf
      refine lv_iload_n hx hb dX0_pair_238 rfl (lv_at hl 3 rfl) ?_
      refine lv_iconst (v := 3) hx hb dX0_pair_239 (by decide) ?_
      refine lv_icmp_ne (tgt := 254) hx hb dX0_pair_240 (by decide) (fun c_240 => ?_) (fun c_240 => ?_)
      · rw [if_neg c_240] at hf
        exact J_c254 τ w2 w4 w6 w13 w14 H locs ls hf hP hD hS (lv_sub hl [0, 1, 2, 4, 6, 8, 9] rfl)
      · rw [if_pos c_240] at hf
        exact J_c243 τ w2 w4 w5 w6 w9 w13 w14 H locs ls hf hP hD hS (lv_sub hl [0, 1, 2, 4, 5, 6, 7, 8, 9] rfl)
  have J_c133 : ∀ (τ : XS) (w2 : Int32) (w3 : Int32) (w4 : Bool) (w5 : Int32) (w6 : Int32) (w9 : Int64) (s0 : Int64) (H : Heap) (locs : List Loc) (ls : Array Slot), F_X0_pair_c133 τ a0 w2 w3 w4 w5 w6 w9 s0 = some res → va_P z.1 vwCl (xW z r τ) H → va_D A (xW z r τ) → va_S A s.heap H locs → lv_has ls 16 [(0, .ref (r 10)), (1, .int a0), (2, .int w2), (3, .int w3), (4, .int (zB w4)), (5, .int w5), (6, .int w6), (9, .long w9)] → W p l e { frames := 5, cells := 0, slots := 0, locals := 136 } s m ([.ref (r 10), .int a0] : List Value).toArray below meth c H locs 0 0 Q (F0 m 133 ls [.long s0]) := by
    intro τ w2 w3 w4 w5 w6 w9 s0 H locs ls hf hP hD hS hl
    unfold F_X0_pair_c133 at hf
    refine lv_lstore (lv' := [(11, .long s0), (0, .ref (r 10)), (1, .int a0), (2, .int w2), (3, .int w3), (4, .int (zB w4)), (5, .int w5), (6, .int w6), (9, .long w9)]) hx hb dX0_pair_133 hl (by decide) rfl (fun ls hl => ?_)
    refine lv_aload_n hx hb dX0_pair_135 rfl (lv_at hl 1 rfl) ?_
    refine lv_lload hx hb dX0_pair_136 (lv_at hl 0 rfl) ?_
    refine lv_iload hx hb dX0_pair_138 (lv_at hl 7 rfl) ?_
    refine lv_iload hx hb dX0_pair_140 (lv_at hl 5 rfl) ?_
    obtain ⟨v1, e_v1, hf⟩ := Option.bind_eq_some_iff.mp hf
    refine k_X0_find (a0 := s0) (a1 := w6) (a2 := w4) (res := v1) (hres := e_v1) S hK hA hP hD hS tl_X0_51 ⟨Nat.le_of_ble_eq_true rfl, Nat.le_of_ble_eq_true rfl⟩ hl.1 (Nat.le_of_ble_eq_true rfl) dX0_pair_142 (fun H locs hP hD hS => ?_)
    refine lv_istore (lv' := [(13, .int v1.1), (11, .long s0), (0, .ref (r 10)), (1, .int a0), (2, .int w2), (3, .int w3), (4, .int (zB w4)), (5, .int w5), (6, .int w6), (9, .long w9)]) hx hb dX0_pair_145 hl (by decide) rfl (fun ls hl => ?_)
    refine lv_iload hx hb dX0_pair_147 (lv_at hl 0 rfl) ?_
    refine lv_if_ge (tgt := 154) hx hb dX0_pair_149 (by decide) (fun c_149 => ?_) (fun c_149 => ?_)
    · rw [if_pos c_149] at hf
      refine lv_aload_n hx hb dX0_pair_154 rfl (lv_at hl 2 rfl) ?_
      refine lv_lload hx hb dX0_pair_155 (lv_at hl 1 rfl) ?_
      refine lv_iload hx hb dX0_pair_157 (lv_at hl 8 rfl) ?_
      refine lv_i2l hx hb dX0_pair_159 rfl ?_
      refine lv_ladd hx hb dX0_pair_160 ?_
      refine lv_iload hx hb dX0_pair_161 (lv_at hl 8 rfl) ?_
      refine lv_iload hx hb dX0_pair_163 (lv_at hl 6 rfl) ?_
      obtain ⟨v2, e_v2, hf⟩ := Option.bind_eq_some_iff.mp hf
      refine k_X0_find (a0 := (s0 + w6.toInt64)) (a1 := w6) (a2 := w4) (res := v2) (hres := e_v2) S hK hA hP hD hS tl_X0_51 ⟨Nat.le_of_ble_eq_true rfl, Nat.le_of_ble_eq_true rfl⟩ hl.1 (Nat.le_of_ble_eq_true rfl) dX0_pair_165 (fun H locs hP hD hS => ?_)
      refine lv_istore (lv' := [(14, .int v2.1), (13, .int v1.1), (11, .long s0), (0, .ref (r 10)), (1, .int a0), (2, .int w2), (3, .int w3), (4, .int (zB w4)), (5, .int w5), (6, .int w6), (9, .long w9)]) hx hb dX0_pair_168 hl (by decide) rfl (fun ls hl => ?_)
      refine lv_iload hx hb dX0_pair_170 (lv_at hl 0 rfl) ?_
      refine lv_if_ge (tgt := 177) hx hb dX0_pair_172 (by decide) (fun c_172 => ?_) (fun c_172 => ?_)
      · rw [if_pos c_172] at hf
        refine lv_iload hx hb dX0_pair_177 (lv_at hl 7 rfl) ?_
        refine gz_ne (tgt := 233) hx hb dX0_pair_179 (by decide) (fun c_179 => ?_) (fun c_179 => ?_)
        · rw [if_pos c_179] at hf
          exact J_c233 v2.2 w2 w3 w4 w5 w6 w9 v1.1 v2.1 H locs ls hf hP hD hS (lv_sub hl [3, 4, 5, 6, 7, 8, 9, 10, 1, 0] rfl)
        · rw [if_neg c_179] at hf
          refine lv_aload_n hx hb dX0_pair_182 rfl (lv_at hl 3 rfl) ?_
          refine fg_X0_memory S hK hP tf_X0_7 dX0_pair_183 ?_
          refine lv_iload hx hb dX0_pair_186 (lv_at hl 1 rfl) ?_
          refine lv_i2l hx hb dX0_pair_188 rfl ?_
          refine lv_iload hx hb dX0_pair_189 (lv_at hl 9 rfl) ?_
          refine lv_aload_n hx hb dX0_pair_191 rfl (lv_at hl 3 rfl) ?_
          refine fg_X0_state S hK hP tf_X0_13 dX0_pair_192 ?_
          refine lv_iload_n hx hb dX0_pair_195 rfl (lv_at hl 4 rfl) ?_
          refine lv_iconst (v := 0) hx hb dX0_pair_196 (by decide) ?_
          refine lv_iconst (v := 5) hx hb dX0_pair_197 (by decide) ?_
          refine k_X1_field (a0 := a0) (a1 := (0 : Int32)) (a2 := (5 : Int32)) S tl_X0_21 ⟨Nat.le_of_ble_eq_true rfl, Nat.le_of_ble_eq_true rfl⟩ hl.1 (Nat.le_of_ble_eq_true rfl) dX0_pair_198 ?_
          refine k_X8_register (a0 := (F_X1_field a0 (0 : Int32) (5 : Int32))) S hK hP tl_X0_55 ⟨Nat.le_of_ble_eq_true rfl, Nat.le_of_ble_eq_true rfl⟩ hl.1 (Nat.le_of_ble_eq_true rfl) dX0_pair_201 ?_
          obtain ⟨v5, e_v5, hf⟩ := Option.bind_eq_some_iff.mp hf
          refine k_X4_write (a0 := v1.1.toInt64) (a1 := w6) (a2 := (F_X8_register v2.2 (F_X1_field a0 (0 : Int32) (5 : Int32)))) (res := v5) (hres := e_v5) S hK hA hP hD hS tl_X0_58 ⟨Nat.le_of_ble_eq_true rfl, Nat.le_of_ble_eq_true rfl⟩ hl.1 (Nat.le_of_ble_eq_true rfl) dX0_pair_204 (fun H locs hP hD hS => ?_)
          refine lv_aload_n hx hb dX0_pair_207 rfl (lv_at hl 3 rfl) ?_
          refine fg_X0_memory S hK hP tf_X0_7 dX0_pair_208 ?_
          refine lv_iload hx hb dX0_pair_211 (lv_at hl 0 rfl) ?_
          refine lv_i2l hx hb dX0_pair_213 rfl ?_
          refine lv_iload hx hb dX0_pair_214 (lv_at hl 9 rfl) ?_
          refine lv_aload_n hx hb dX0_pair_216 rfl (lv_at hl 3 rfl) ?_
          refine fg_X0_state S hK hP tf_X0_13 dX0_pair_217 ?_
          refine lv_iload_n hx hb dX0_pair_220 rfl (lv_at hl 4 rfl) ?_
          refine lv_bipush (v := 10) hx hb dX0_pair_221 (by decide) ?_
          refine lv_iconst (v := 5) hx hb dX0_pair_223 (by decide) ?_
          refine k_X1_field (a0 := a0) (a1 := (10 : Int32)) (a2 := (5 : Int32)) S tl_X0_21 ⟨Nat.le_of_ble_eq_true rfl, Nat.le_of_ble_eq_true rfl⟩ hl.1 (Nat.le_of_ble_eq_true rfl) dX0_pair_224 ?_
          refine k_X8_register (a0 := (F_X1_field a0 (10 : Int32) (5 : Int32))) S hK hP tl_X0_55 ⟨Nat.le_of_ble_eq_true rfl, Nat.le_of_ble_eq_true rfl⟩ hl.1 (Nat.le_of_ble_eq_true rfl) dX0_pair_227 ?_
          obtain ⟨v6, e_v6, hf⟩ := Option.bind_eq_some_iff.mp hf
          refine k_X4_write (a0 := v2.1.toInt64) (a1 := w6) (a2 := (F_X8_register v5 (F_X1_field a0 (10 : Int32) (5 : Int32)))) (res := v6) (hres := e_v6) S hK hA hP hD hS tl_X0_58 ⟨Nat.le_of_ble_eq_true rfl, Nat.le_of_ble_eq_true rfl⟩ hl.1 (Nat.le_of_ble_eq_true rfl) dX0_pair_230 (fun H locs hP hD hS => ?_)
          exact J_c233 v6 w2 w3 w4 w5 w6 w9 v1.1 v2.1 H locs ls hf hP hD hS (lv_sub hl [3, 4, 5, 6, 7, 8, 9, 10, 1, 0] rfl)
      · rw [if_neg c_172] at hf
        refine lv_iconst (v := 1) hx hb dX0_pair_175 (by decide) ?_
        exact hend true v2.2 H locs 176 ls (Option.some.inj hf) hP hD hS dX0_pair_176
    · rw [if_neg c_149] at hf
      refine lv_iconst (v := 1) hx hb dX0_pair_152 (by decide) ?_
      exact hend true v1.2 H locs 153 ls (Option.some.inj hf) hP hD hS dX0_pair_153
  have J_c121 : ∀ (τ : XS) (w2 : Int32) (w3 : Int32) (w4 : Bool) (w5 : Int32) (w6 : Int32) (w7 : Int64) (w9 : Int64) (H : Heap) (locs : List Loc) (ls : Array Slot), F_X0_pair_c121 τ a0 w2 w3 w4 w5 w6 w7 w9 = some res → va_P z.1 vwCl (xW z r τ) H → va_D A (xW z r τ) → va_S A s.heap H locs → lv_has ls 16 [(0, .ref (r 10)), (1, .int a0), (2, .int w2), (3, .int w3), (4, .int (zB w4)), (5, .int w5), (6, .int w6), (7, .long w7), (9, .long w9)] → W p l e { frames := 5, cells := 0, slots := 0, locals := 136 } s m ([.ref (r 10), .int a0] : List Value).toArray below meth c H locs 0 0 Q (F0 m 121 ls []) := by
    intro τ w2 w3 w4 w5 w6 w7 w9 H locs ls hf hP hD hS hl
    unfold F_X0_pair_c121 at hf
    refine lv_iload_n hx hb dX0_pair_121 rfl (lv_at hl 3 rfl) ?_
    refine lv_iconst (v := 1) hx hb dX0_pair_122 (by decide) ?_
    refine lv_icmp_ne (tgt := 131) hx hb dX0_pair_123 (by decide) (fun c_123 => ?_) (fun c_123 => ?_)
    · rw [if_neg c_123] at hf
      refine lv_lload hx hb dX0_pair_131 (lv_at hl 8 rfl) ?_
      exact J_c133 τ w2 w3 w4 w5 w6 w9 w9 H locs ls hf hP hD hS (lv_sub hl [0, 1, 2, 3, 4, 5, 6, 8] rfl)
    · rw [if_pos c_123] at hf
      refine lv_lload hx hb dX0_pair_126 (lv_at hl 7 rfl) ?_
      refine lv_goto (tgt := 133) hx hb dX0_pair_128 (by decide) ?_
      exact J_c133 τ w2 w3 w4 w5 w6 w9 w7 H locs ls hf hP hD hS (lv_sub hl [0, 1, 2, 3, 4, 5, 6, 8] rfl)
  have J_c104 : ∀ (τ : XS) (w2 : Int32) (w3 : Int32) (w4 : Bool) (w5 : Int32) (w6 : Int32) (w7 : Int64) (H : Heap) (locs : List Loc) (ls : Array Slot), F_X0_pair_c104 τ a0 w2 w3 w4 w5 w6 w7 = some res → va_P z.1 vwCl (xW z r τ) H → va_D A (xW z r τ) → va_S A s.heap H locs → lv_has ls 16 [(0, .ref (r 10)), (1, .int a0), (2, .int w2), (3, .int w3), (4, .int (zB w4)), (5, .int w5), (6, .int w6), (7, .long w7)] → W p l e { frames := 5, cells := 0, slots := 0, locals := 136 } s m ([.ref (r 10), .int a0] : List Value).toArray below meth c H locs 0 0 Q (F0 m 104 ls []) := by
    intro τ w2 w3 w4 w5 w6 w7 H locs ls hf hP hD hS hl
    unfold F_X0_pair_c104 at hf
    refine lv_lload hx hb dX0_pair_104 (lv_at hl 7 rfl) ?_
    refine lv_iload_n hx hb dX0_pair_106 rfl (lv_at hl 1 rfl) ?_
    refine lv_bipush (v := 15) hx hb dX0_pair_107 (by decide) ?_
    refine lv_bipush (v := 7) hx hb dX0_pair_109 (by decide) ?_
    refine k_X1_signedField (a0 := a0) (a1 := (15 : Int32)) (a2 := (7 : Int32)) S tl_X0_83 ⟨Nat.le_of_ble_eq_true rfl, Nat.le_of_ble_eq_true rfl⟩ hl.1 (Nat.le_of_ble_eq_true rfl) dX0_pair_111 ?_
    refine lv_iload hx hb dX0_pair_114 (lv_at hl 6 rfl) ?_
    refine lv_i2l hx hb dX0_pair_116 rfl ?_
    refine lv_lmul hx hb dX0_pair_117 ?_
    refine lv_ladd hx hb dX0_pair_118 ?_
    refine lv_lstore (lv' := [(9, .long (w7 + ((F_X1_signedField a0 (15 : Int32) (7 : Int32)) * w6.toInt64))), (0, .ref (r 10)), (1, .int a0), (2, .int w2), (3, .int w3), (4, .int (zB w4)), (5, .int w5), (6, .int w6), (7, .long w7)]) hx hb dX0_pair_119 hl (by decide) rfl (fun ls hl => ?_)
    exact J_c121 τ w2 w3 w4 w5 w6 w7 (w7 + ((F_X1_signedField a0 (15 : Int32) (7 : Int32)) * w6.toInt64)) H locs ls hf hP hD hS (lv_sub hl [1, 2, 3, 4, 5, 6, 7, 8, 0] rfl)
  have J_c91 : ∀ (τ : XS) (w2 : Int32) (w3 : Int32) (w4 : Bool) (w5 : Int32) (s0 : Int32) (H : Heap) (locs : List Loc) (ls : Array Slot), F_X0_pair_c91 τ a0 w2 w3 w4 w5 s0 = some res → va_P z.1 vwCl (xW z r τ) H → va_D A (xW z r τ) → va_S A s.heap H locs → lv_has ls 16 [(0, .ref (r 10)), (1, .int a0), (2, .int w2), (3, .int w3), (4, .int (zB w4)), (5, .int w5)] → W p l e { frames := 5, cells := 0, slots := 0, locals := 136 } s m ([.ref (r 10), .int a0] : List Value).toArray below meth c H locs 0 0 Q (F0 m 91 ls [.int s0]) := by
    intro τ w2 w3 w4 w5 s0 H locs ls hf hP hD hS hl
    unfold F_X0_pair_c91 at hf
    refine lv_istore (lv' := [(6, .int s0), (0, .ref (r 10)), (1, .int a0), (2, .int w2), (3, .int w3), (4, .int (zB w4)), (5, .int w5)]) hx hb dX0_pair_91 hl (by decide) rfl (fun ls hl => ?_)
    refine lv_aload_n hx hb dX0_pair_93 rfl (lv_at hl 1 rfl) ?_
    refine fg_X0_state S hK hP tf_X0_13 dX0_pair_94 ?_
    refine lv_iload hx hb dX0_pair_97 (lv_at hl 6 rfl) ?_
    refine k_X8_registerOrStack (a0 := w5) S hK hP tl_X0_44 ⟨Nat.le_of_ble_eq_true rfl, Nat.le_of_ble_eq_true rfl⟩ hl.1 (Nat.le_of_ble_eq_true rfl) dX0_pair_99 ?_
    refine lv_lstore (lv' := [(7, .long (F_X8_registerOrStack τ w5)), (6, .int s0), (0, .ref (r 10)), (1, .int a0), (2, .int w2), (3, .int w3), (4, .int (zB w4)), (5, .int w5)]) hx hb dX0_pair_102 hl (by decide) rfl (fun ls hl => ?_)
    exact J_c104 τ w2 w3 w4 w5 s0 (F_X8_registerOrStack τ w5) H locs ls hf hP hD hS (lv_sub hl [2, 3, 4, 5, 6, 7, 1, 0] rfl)
  have J_c59 : ∀ (τ : XS) (w2 : Int32) (w3 : Int32) (w4 : Bool) (w5 : Int32) (H : Heap) (locs : List Loc) (ls : Array Slot), F_X0_pair_c59 τ a0 w2 w3 w4 w5 = some res → va_P z.1 vwCl (xW z r τ) H → va_D A (xW z r τ) → va_S A s.heap H locs → lv_has ls 16 [(0, .ref (r 10)), (1, .int a0), (2, .int w2), (3, .int w3), (4, .int (zB w4)), (5, .int w5)] → W p l e { frames := 5, cells := 0, slots := 0, locals := 136 } s m ([.ref (r 10), .int a0] : List Value).toArray below meth c H locs 0 0 Q (F0 m 59 ls []) := by
    intro τ w2 w3 w4 w5 H locs ls hf hP hD hS hl
    unfold F_X0_pair_c59 at hf
    refine lv_aload_n hx hb dX0_pair_59 rfl (lv_at hl 0 rfl) ?_
    refine lv_iload hx hb dX0_pair_60 (lv_at hl 5 rfl) ?_
    refine k_X0_stackIsCrooked (a0 := w5) S hK hP tl_X0_31 ⟨Nat.le_of_ble_eq_true rfl, Nat.le_of_ble_eq_true rfl⟩ hl.1 (Nat.le_of_ble_eq_true rfl) dX0_pair_62 ?_
    refine gz_eq (tgt := 80) hx hb dX0_pair_65 (by decide) (fun c_65 => ?_) (fun c_65 => ?_)
    · rw [if_neg c_65] at hf
      refine lv_iload_n hx hb dX0_pair_80 rfl (lv_at hl 2 rfl) ?_
      refine lv_iconst (v := 2) hx hb dX0_pair_81 (by decide) ?_
      refine lv_icmp_ne (tgt := 90) hx hb dX0_pair_82 (by decide) (fun c_82 => ?_) (fun c_82 => ?_)
      · rw [if_neg c_82] at hf
        refine lv_iconst (v := 4) hx hb dX0_pair_90 (by decide) ?_
        exact J_c91 τ w2 w3 w4 w5 (4 : Int32) H locs ls hf hP hD hS (lv_sub hl [0, 1, 2, 3, 4, 5] rfl)
      · rw [if_pos c_82] at hf
        refine lv_bipush (v := 8) hx hb dX0_pair_85 (by decide) ?_
        refine lv_goto (tgt := 91) hx hb dX0_pair_87 (by decide) ?_
        exact J_c91 τ w2 w3 w4 w5 (8 : Int32) H locs ls hf hP hD hS (lv_sub hl [0, 1, 2, 3, 4, 5] rfl)
    · rw [if_pos c_65] at hf
      refine lv_aload_n hx hb dX0_pair_68 rfl (lv_at hl 0 rfl) ?_
      refine fg_X0_state S hK hP tf_X0_13 dX0_pair_69 ?_
      refine lv_bipush (v := 38) hx hb dX0_pair_72 (by decide) ?_
      refine lv_iconst (v := 0) hx hb dX0_pair_74 (by decide) ?_
      refine k_X8_raise (a0 := (38 : Int32)) (a1 := (0 : Int32)) S hK hA hP hD hS tl_X0_34 ⟨Nat.le_of_ble_eq_true rfl, Nat.le_of_ble_eq_true rfl⟩ hl.1 (Nat.le_of_ble_eq_true rfl) dX0_pair_75 (fun H locs hP hD hS => ?_)
      refine lv_iconst (v := 1) hx hb dX0_pair_78 (by decide) ?_
      exact hend true (F_X8_raise τ (38 : Int32) (0 : Int32)) H locs 79 ls (Option.some.inj hf) hP hD hS dX0_pair_79
  have J_c51 : ∀ (τ : XS) (w2 : Int32) (w3 : Int32) (w4 : Bool) (H : Heap) (locs : List Loc) (ls : Array Slot), F_X0_pair_c51 τ a0 w2 w3 w4 = some res → va_P z.1 vwCl (xW z r τ) H → va_D A (xW z r τ) → va_S A s.heap H locs → lv_has ls 16 [(0, .ref (r 10)), (1, .int a0), (2, .int w2), (3, .int w3), (4, .int (zB w4))] → W p l e { frames := 5, cells := 0, slots := 0, locals := 136 } s m ([.ref (r 10), .int a0] : List Value).toArray below meth c H locs 0 0 Q (F0 m 51 ls []) := by
    intro τ w2 w3 w4 H locs ls hf hP hD hS hl
    unfold F_X0_pair_c51 at hf
    refine lv_iload_n hx hb dX0_pair_51 rfl (lv_at hl 1 rfl) ?_
    refine lv_iconst (v := 5) hx hb dX0_pair_52 (by decide) ?_
    refine lv_iconst (v := 5) hx hb dX0_pair_53 (by decide) ?_
    refine k_X1_field (a0 := a0) (a1 := (5 : Int32)) (a2 := (5 : Int32)) S tl_X0_21 ⟨Nat.le_of_ble_eq_true rfl, Nat.le_of_ble_eq_true rfl⟩ hl.1 (Nat.le_of_ble_eq_true rfl) dX0_pair_54 ?_
    refine lv_istore (lv' := [(5, .int (F_X1_field a0 (5 : Int32) (5 : Int32))), (0, .ref (r 10)), (1, .int a0), (2, .int w2), (3, .int w3), (4, .int (zB w4))]) hx hb dX0_pair_57 hl (by decide) rfl (fun ls hl => ?_)
    exact J_c59 τ w2 w3 w4 (F_X1_field a0 (5 : Int32) (5 : Int32)) H locs ls hf hP hD hS (lv_sub hl [1, 2, 3, 4, 5, 0] rfl)
  have J_c21 : ∀ (τ : XS) (w2 : Int32) (w3 : Int32) (w4 : Bool) (H : Heap) (locs : List Loc) (ls : Array Slot), F_X0_pair_c21 τ a0 w2 w3 w4 = some res → va_P z.1 vwCl (xW z r τ) H → va_D A (xW z r τ) → va_S A s.heap H locs → lv_has ls 16 [(0, .ref (r 10)), (1, .int a0), (2, .int w2), (3, .int w3), (4, .int (zB w4))] → W p l e { frames := 5, cells := 0, slots := 0, locals := 136 } s m ([.ref (r 10), .int a0] : List Value).toArray below meth c H locs 0 0 Q (F0 m 21 ls []) := by
    intro τ w2 w3 w4 H locs ls hf hP hD hS hl
    unfold F_X0_pair_c21 at hf
    refine lv_iload_n hx hb dX0_pair_21 rfl (lv_at hl 1 rfl) ?_
    refine lv_bipush (v := 29) hx hb dX0_pair_22 (by decide) ?_
    refine k_X1_isOne (a0 := a0) (a1 := (29 : Int32)) S tl_X0_79 ⟨Nat.le_of_ble_eq_true rfl, Nat.le_of_ble_eq_true rfl⟩ hl.1 (Nat.le_of_ble_eq_true rfl) dX0_pair_24 ?_
    refine gz_eq (tgt := 49) hx hb dX0_pair_27 (by decide) (fun c_27 => ?_) (fun c_27 => ?_)
    · rw [if_neg c_27] at hf
      refine lv_iconst (v := 0) hx hb dX0_pair_49 (by decide) ?_
      exact hend false τ H locs 50 ls (Option.some.inj hf) hP hD hS dX0_pair_50
    · rw [if_pos c_27] at hf
      refine lv_iload_n hx hb dX0_pair_30 rfl (lv_at hl 2 rfl) ?_
      refine lv_iconst (v := 3) hx hb dX0_pair_31 (by decide) ?_
      refine lv_icmp_eq (tgt := 49) hx hb dX0_pair_32 (by decide) (fun c_32 => ?_) (fun c_32 => ?_)
      · rw [if_pos c_32] at hf
        refine lv_iconst (v := 0) hx hb dX0_pair_49 (by decide) ?_
        exact hend false τ H locs 50 ls (Option.some.inj hf) hP hD hS dX0_pair_50
      · rw [if_neg c_32] at hf
        refine lv_iload_n hx hb dX0_pair_35 rfl (lv_at hl 3 rfl) ?_
        refine lv_if_eq (tgt := 49) hx hb dX0_pair_36 (by decide) (fun c_36 => ?_) (fun c_36 => ?_)
        · rw [if_pos c_36] at hf
          refine lv_iconst (v := 0) hx hb dX0_pair_49 (by decide) ?_
          exact hend false τ H locs 50 ls (Option.some.inj hf) hP hD hS dX0_pair_50
        · rw [if_neg c_36] at hf
          refine lv_iload_n hx hb dX0_pair_39 rfl (lv_at hl 2 rfl) ?_
          refine lv_iconst (v := 1) hx hb dX0_pair_40 (by decide) ?_
          refine lv_icmp_ne (tgt := 51) hx hb dX0_pair_41 (by decide) (fun c_41 => ?_) (fun c_41 => ?_)
          · rw [if_neg c_41] at hf
            exact J_c51 τ w2 w3 w4 H locs ls hf hP hD hS (lv_sub hl [0, 1, 2, 3, 4] rfl)
          · rw [if_pos c_41] at hf
            refine lv_iload hx hb dX0_pair_44 (lv_at hl 4 rfl) ?_
            refine gz_ne (tgt := 51) hx hb dX0_pair_46 (by decide) (fun c_46 => ?_) (fun c_46 => ?_)
            · rw [if_pos c_46] at hf
              exact J_c51 τ w2 w3 w4 H locs ls hf hP hD hS (lv_sub hl [0, 1, 2, 3, 4] rfl)
            · rw [if_neg c_46] at hf
              refine lv_iconst (v := 0) hx hb dX0_pair_49 (by decide) ?_
              exact hend false τ H locs 50 ls (Option.some.inj hf) hP hD hS dX0_pair_50
  have J_c13 : ∀ (τ : XS) (w2 : Int32) (w3 : Int32) (H : Heap) (locs : List Loc) (ls : Array Slot), F_X0_pair_c13 τ a0 w2 w3 = some res → va_P z.1 vwCl (xW z r τ) H → va_D A (xW z r τ) → va_S A s.heap H locs → lv_has ls 16 [(0, .ref (r 10)), (1, .int a0), (2, .int w2), (3, .int w3)] → W p l e { frames := 5, cells := 0, slots := 0, locals := 136 } s m ([.ref (r 10), .int a0] : List Value).toArray below meth c H locs 0 0 Q (F0 m 13 ls []) := by
    intro τ w2 w3 H locs ls hf hP hD hS hl
    unfold F_X0_pair_c13 at hf
    refine lv_iload_n hx hb dX0_pair_13 rfl (lv_at hl 1 rfl) ?_
    refine lv_bipush (v := 22) hx hb dX0_pair_14 (by decide) ?_
    refine k_X1_isOne (a0 := a0) (a1 := (22 : Int32)) S tl_X0_79 ⟨Nat.le_of_ble_eq_true rfl, Nat.le_of_ble_eq_true rfl⟩ hl.1 (Nat.le_of_ble_eq_true rfl) dX0_pair_16 ?_
    refine lv_istore (lv' := [(4, .int (zB (F_X1_isOne a0 (22 : Int32)))), (0, .ref (r 10)), (1, .int a0), (2, .int w2), (3, .int w3)]) hx hb dX0_pair_19 hl (by decide) rfl (fun ls hl => ?_)
    exact J_c21 τ w2 w3 (F_X1_isOne a0 (22 : Int32)) H locs ls hf hP hD hS (lv_sub hl [1, 2, 3, 4, 0] rfl)
  have J_c5 : ∀ (τ : XS) (w2 : Int32) (H : Heap) (locs : List Loc) (ls : Array Slot), F_X0_pair_c5 τ a0 w2 = some res → va_P z.1 vwCl (xW z r τ) H → va_D A (xW z r τ) → va_S A s.heap H locs → lv_has ls 16 [(0, .ref (r 10)), (1, .int a0), (2, .int w2)] → W p l e { frames := 5, cells := 0, slots := 0, locals := 136 } s m ([.ref (r 10), .int a0] : List Value).toArray below meth c H locs 0 0 Q (F0 m 5 ls []) := by
    intro τ w2 H locs ls hf hP hD hS hl
    unfold F_X0_pair_c5 at hf
    refine lv_iload_n hx hb dX0_pair_5 rfl (lv_at hl 1 rfl) ?_
    refine lv_bipush (v := 23) hx hb dX0_pair_6 (by decide) ?_
    refine lv_iconst (v := 2) hx hb dX0_pair_8 (by decide) ?_
    refine k_X1_field (a0 := a0) (a1 := (23 : Int32)) (a2 := (2 : Int32)) S tl_X0_21 ⟨Nat.le_of_ble_eq_true rfl, Nat.le_of_ble_eq_true rfl⟩ hl.1 (Nat.le_of_ble_eq_true rfl) dX0_pair_9 ?_
    refine lv_istore_n (lv' := [(3, .int (F_X1_field a0 (23 : Int32) (2 : Int32))), (0, .ref (r 10)), (1, .int a0), (2, .int w2)]) hx hb dX0_pair_12 rfl hl (by decide) rfl (fun ls hl => ?_)
    exact J_c13 τ w2 (F_X1_field a0 (23 : Int32) (2 : Int32)) H locs ls hf hP hD hS (lv_sub hl [1, 2, 3, 0] rfl)
  unfold F_X0_pair at hf
  refine lv_iload_n hx hb dX0_pair_0 rfl (lv_at hl 1 rfl) ?_
  refine lv_bipush (v := 30) hx hb dX0_pair_1 (by decide) ?_
  refine lv_iushr (v := (j_iushr a0 (30 : Int32))) hx hb dX0_pair_3 rfl ?_
  refine lv_istore_n (lv' := [(2, .int (j_iushr a0 (30 : Int32))), (0, .ref (r 10)), (1, .int a0)]) hx hb dX0_pair_4 rfl hl (by decide) rfl (fun ls hl => ?_)
  exact J_c5 σ (j_iushr a0 (30 : Int32)) H locs ls hf hP hD hS (lv_sub hl [1, 2, 0] rfl)
theorem k_X0_pair {p : Program} {l : Launch} {e : Env} {R : Room} {s : State} {m : MethodId} {args : Array Value} {below : List Frame} {meth : Method} {c : Code} {H : Heap} {locs : List Loc} {Q : State → Prop} {cc : ByteArray} {pc : Nat} {ls : Array Slot} {rest : List Value} {own : String} {index nL : Nat} {A : Nat → Prop} {z : Cx} {r : Nat → Nat} {σ : XS} {a0 : Int32} {res : Bool × XS} (hres : F_X0_pair σ a0 = some res) (S : CallFix p m c cc nL s args tbG own) (hK : va_K z.1 vwCl (cxT z) s) (hA : ∀ q, s.heap.size ≤ q → A q) (hP : va_P z.1 vwCl (xW z r σ) H) (hD : va_D A (xW z r σ)) (hS : va_S A s.heap H locs) (hl : Cond.methodLink own index yX0_pair ∈ tbG) (hR : 5 + 1 ≤ R.frames ∧ 8 + (16 + 11) + 136 ≤ R.locals) (hsz : ls.size = nL) (hcat : (rest.map fun v => v.category).sum ≤ 8) (hdg : decode cc pc = .ok (.invokevirtual index, 3)) (kk : ∀ (H : Heap) (locs : List Loc), va_P z.1 vwCl (xW z r res.2) H → va_D A (xW z r res.2) → va_S A s.heap H locs → W p l e R s m args below meth c H locs 0 0 Q (F0 m (pc + 3) ls (.int (zB res.1) :: rest))) : W p l e R s m args below meth c H locs 0 0 Q (F0 m pc ls (.int a0 :: .ref (r 10) :: rest)) :=
  km (As := [.int a0]) (ov := some (.int (zB res.1))) (w' := xW z r res.2) (q0 := 10) (ci := 0) S hK hA hP hD hS (c_X0_pair l z r σ a0 H.size _ hres) ⟨tb_cB 1 S.2.2.2.2 tc_X0_pair ti_X0 hl rfl rfl (by decide +kernel) hR, S.2.2.2.2 _ tm_X0_pair, S.2.2.2.2 _ te_X0_pair⟩ rfl rfl rfl rfl hsz rfl hcat hdg kk

theorem dX8_pc_0 : decode cX8_pc 0 = .ok (.aload_n 0, 1) := by decide +kernel
theorem dX8_pc_1 : decode cX8_pc 1 = .ok (.getfield 9, 3) := by decide +kernel
theorem dX8_pc_4 : decode cX8_pc 4 = .ok (.bipush 33, 2) := by decide +kernel
theorem dX8_pc_6 : decode cX8_pc 6 = .ok (.laload, 1) := by decide +kernel
theorem dX8_pc_7 : decode cX8_pc 7 = .ok (.lreturn, 1) := by decide +kernel
def F_X8_pc (σ : XS)  : Int64 := (xP σ (33 : Int32).toNatClampNeg)
set_option maxHeartbeats 4000000 in
set_option maxRecDepth 100000 in
theorem c_X8_pc (l : Launch) (z : Cx) (r : Nat → Nat) (σ : XS) (res : Int64) (hf : F_X8_pc σ = res) : Met l yX8_pc (wsC yX8_pc cX8_pc 1 (some .long)) { frames := 0, cells := 0, slots := 0, locals := 0 } (rPc z (xW z r σ) [.ref (r 3)]) (gS (some (.long res))) 0 0 (fun _ => False) := by
  refine mk_r_l (own := RX8) (by decide) rfl _ (Nat.le_of_ble_eq_true rfl) (fun p e s m below meth c H locs Q ls S hK hP hl hend => ?_)
  have hx := S.1
  have hb := S.2.1
  have hown := S.2.2.2.1
  have hts := S.2.2.2.2
  have hl : lv_has ls 1 [(0, .ref (r 3))] := hl
  unfold F_X8_pc at hf
  refine lv_aload_n hx hb dX8_pc_0 rfl (lv_at hl 0 rfl) ?_
  refine fg_X8_parts S hK hP tf_X8_9 dX8_pc_1 ?_
  refine lv_bipush (v := 33) hx hb dX8_pc_4 (by decide) ?_
  refine al_xP S hK hP (show vp_in (33 : Int32) 46 by unfold vp_in; decide) dX8_pc_6 ?_
  exact hend (xP σ (33 : Int32).toNatClampNeg) 7 ls hf dX8_pc_7
theorem k_X8_pc {p : Program} {l : Launch} {e : Env} {R : Room} {s : State} {m : MethodId} {args : Array Value} {below : List Frame} {meth : Method} {c : Code} {H : Heap} {locs : List Loc} {Q : State → Prop} {cc : ByteArray} {pc : Nat} {ls : Array Slot} {rest : List Value} {own : String} {index nL : Nat} {z : Cx} {r : Nat → Nat} {σ : XS} (S : CallFix p m c cc nL s args tbG own) (hK : va_K z.1 vwCl (cxT z) s) (hP : va_P z.1 vwCl (xW z r σ) H) (hl : Cond.methodLink own index yX8_pc ∈ tbG) (hR : 0 + 1 ≤ R.frames ∧ 8 + (1 + 11) + 0 ≤ R.locals) (hsz : ls.size = nL) (hcat : (rest.map fun v => v.category).sum ≤ 8) (hdg : decode cc pc = .ok (.invokevirtual index, 3)) (kk : W p l e R s m args below meth c H locs 0 0 Q (F0 m (pc + 3) ls (.long (F_X8_pc σ) :: rest))) : W p l e R s m args below meth c H locs 0 0 Q (F0 m pc ls (.ref (r 3) :: rest)) :=
  kr (As := []) (ov := some (.long (F_X8_pc σ))) (q0 := 3) (ci := 7) S hK hP (c_X8_pc l z r σ _ rfl) ⟨tb_cB 0 S.2.2.2.2 tc_X8_pc ti_X8 hl rfl rfl (by decide +kernel) hR, S.2.2.2.2 _ tm_X8_pc, S.2.2.2.2 _ te_X8_pc⟩ rfl rfl rfl rfl hsz rfl hcat hdg kk

theorem dX0_near_0 : decode cX0_near 0 = .ok (.iload_n 1, 1) := by decide +kernel
theorem dX0_near_1 : decode cX0_near 1 = .ok (.ifCond .ge 5, 3) := by decide +kernel
theorem dX0_near_4 : decode cX0_near 4 = .ok (.iconst 0, 1) := by decide +kernel
theorem dX0_near_5 : decode cX0_near 5 = .ok (.ireturn, 1) := by decide +kernel
theorem dX0_near_6 : decode cX0_near 6 = .ok (.iload_n 1, 1) := by decide +kernel
theorem dX0_near_7 : decode cX0_near 7 = .ok (.bipush 30, 2) := by decide +kernel
theorem dX0_near_9 : decode cX0_near 9 = .ok (.invokestatic 79, 3) := by decide +kernel
theorem dX0_near_12 : decode cX0_near 12 = .ok (.ifCond .eq 8, 3) := by decide +kernel
theorem dX0_near_15 : decode cX0_near 15 = .ok (.bipush 8, 2) := by decide +kernel
theorem dX0_near_17 : decode cX0_near 17 = .ok (.goto 4, 3) := by decide +kernel
theorem dX0_near_20 : decode cX0_near 20 = .ok (.iconst 4, 1) := by decide +kernel
theorem dX0_near_21 : decode cX0_near 21 = .ok (.istore_n 2, 1) := by decide +kernel
theorem dX0_near_22 : decode cX0_near 22 = .ok (.aload_n 0, 1) := by decide +kernel
theorem dX0_near_23 : decode cX0_near 23 = .ok (.aload_n 0, 1) := by decide +kernel
theorem dX0_near_24 : decode cX0_near 24 = .ok (.getfield 13, 3) := by decide +kernel
theorem dX0_near_27 : decode cX0_near 27 = .ok (.invokevirtual 93, 3) := by decide +kernel
theorem dX0_near_30 : decode cX0_near 30 = .ok (.ldc2_w 97, 3) := by decide +kernel
theorem dX0_near_33 : decode cX0_near 33 = .ok (.iload_n 1, 1) := by decide +kernel
theorem dX0_near_34 : decode cX0_near 34 = .ok (.iconst 5, 1) := by decide +kernel
theorem dX0_near_35 : decode cX0_near 35 = .ok (.bipush 19, 2) := by decide +kernel
theorem dX0_near_37 : decode cX0_near 37 = .ok (.invokestatic 83, 3) := by decide +kernel
theorem dX0_near_40 : decode cX0_near 40 = .ok (.lmul, 1) := by decide +kernel
theorem dX0_near_41 : decode cX0_near 41 = .ok (.ladd, 1) := by decide +kernel
theorem dX0_near_42 : decode cX0_near 42 = .ok (.iload_n 2, 1) := by decide +kernel
theorem dX0_near_43 : decode cX0_near 43 = .ok (.iconst 1, 1) := by decide +kernel
theorem dX0_near_44 : decode cX0_near 44 = .ok (.invokevirtual 51, 3) := by decide +kernel
theorem dX0_near_47 : decode cX0_near 47 = .ok (.istore_n 3, 1) := by decide +kernel
theorem dX0_near_48 : decode cX0_near 48 = .ok (.iload_n 3, 1) := by decide +kernel
theorem dX0_near_49 : decode cX0_near 49 = .ok (.ifCond .lt 26, 3) := by decide +kernel
theorem dX0_near_52 : decode cX0_near 52 = .ok (.aload_n 0, 1) := by decide +kernel
theorem dX0_near_53 : decode cX0_near 53 = .ok (.getfield 13, 3) := by decide +kernel
theorem dX0_near_56 : decode cX0_near 56 = .ok (.iload_n 1, 1) := by decide +kernel
theorem dX0_near_57 : decode cX0_near 57 = .ok (.iconst 0, 1) := by decide +kernel
theorem dX0_near_58 : decode cX0_near 58 = .ok (.iconst 5, 1) := by decide +kernel
theorem dX0_near_59 : decode cX0_near 59 = .ok (.invokestatic 21, 3) := by decide +kernel
theorem dX0_near_62 : decode cX0_near 62 = .ok (.aload_n 0, 1) := by decide +kernel
theorem dX0_near_63 : decode cX0_near 63 = .ok (.getfield 7, 3) := by decide +kernel
theorem dX0_near_66 : decode cX0_near 66 = .ok (.iload_n 3, 1) := by decide +kernel
theorem dX0_near_67 : decode cX0_near 67 = .ok (.i2l, 1) := by decide +kernel
theorem dX0_near_68 : decode cX0_near 68 = .ok (.iload_n 2, 1) := by decide +kernel
theorem dX0_near_69 : decode cX0_near 69 = .ok (.invokevirtual 68, 3) := by decide +kernel
theorem dX0_near_72 : decode cX0_near 72 = .ok (.invokevirtual 76, 3) := by decide +kernel
theorem dX0_near_75 : decode cX0_near 75 = .ok (.iconst 1, 1) := by decide +kernel
theorem dX0_near_76 : decode cX0_near 76 = .ok (.ireturn, 1) := by decide +kernel
def F_X0_near_c21 (τ : XS) (a0 : Int32) (s0 : Int32) : Option (Bool × XS) := ((F_X0_find τ ((F_X8_pc τ) + ((4 : Int64) * (F_X1_signedField a0 (5 : Int32) (19 : Int32)))) s0 true).bind fun v1 => (if v1.1 < 0 then some ((true, v1.2)) else ((F_X4_read v1.2 v1.1.toInt64 s0).bind fun v2 => some ((true, (F_X8_putRegister v1.2 (F_X1_field a0 (0 : Int32) (5 : Int32)) v2))))))
def F_X0_near (σ : XS) (a0 : Int32) : Option (Bool × XS) := (if 0 ≤ a0 then (if (F_X1_isOne a0 (30 : Int32)) = true then (F_X0_near_c21 σ a0 (8 : Int32)) else (F_X0_near_c21 σ a0 (4 : Int32))) else some ((false, σ)))
set_option maxHeartbeats 4000000 in
set_option maxRecDepth 100000 in
theorem c_X0_near (l : Launch) (z : Cx) (r : Nat → Nat) (σ : XS) (a0 : Int32) (sz : Nat) (res : Bool × XS) (hf : F_X0_near σ a0 = some res) : Met l yX0_near (wsC yX0_near cX0_near 4 (some .boolean)) { frames := 5, cells := 0, slots := 0, locals := 136 } (mPc z (xW z r σ) sz [.ref (r 10), .int a0]) (gM z (va_A (xW z r σ) sz) (some (.int (zB res.1))) (xW z r res.2)) 0 0 (va_A (xW z r σ) sz) := by
  refine mk_m_z (own := RX0) (wf := xW z r) (by decide) rfl sz _ (Nat.le_of_ble_eq_true rfl) (fun p e s m below meth c A H locs Q ls S hK hA hP hD hS hl hend => ?_)
  have hx := S.1
  have hb := S.2.1
  have hown := S.2.2.2.1
  have hts := S.2.2.2.2
  have hl : lv_has ls 4 [(0, .ref (r 10)), (1, .int a0)] := hl
  have J_c21 : ∀ (τ : XS) (s0 : Int32) (H : Heap) (locs : List Loc) (ls : Array Slot), F_X0_near_c21 τ a0 s0 = some res → va_P z.1 vwCl (xW z r τ) H → va_D A (xW z r τ) → va_S A s.heap H locs → lv_has ls 4 [(0, .ref (r 10)), (1, .int a0)] → W p l e { frames := 5, cells := 0, slots := 0, locals := 136 } s m ([.ref (r 10), .int a0] : List Value).toArray below meth c H locs 0 0 Q (F0 m 21 ls [.int s0]) := by
    intro τ s0 H locs ls hf hP hD hS hl
    unfold F_X0_near_c21 at hf
    refine lv_istore_n (lv' := [(2, .int s0), (0, .ref (r 10)), (1, .int a0)]) hx hb dX0_near_21 rfl hl (by decide) rfl (fun ls hl => ?_)
    refine lv_aload_n hx hb dX0_near_22 rfl (lv_at hl 1 rfl) ?_
    refine lv_aload_n hx hb dX0_near_23 rfl (lv_at hl 1 rfl) ?_
    refine fg_X0_state S hK hP tf_X0_13 dX0_near_24 ?_
    refine k_X8_pc S hK hP tl_X0_93 ⟨Nat.le_of_ble_eq_true rfl, Nat.le_of_ble_eq_true rfl⟩ hl.1 (Nat.le_of_ble_eq_true rfl) dX0_near_27 ?_
    refine lv_ldc2 (v := 4) hx hb hown (hts _ tk_X0_97) dX0_near_30 ?_
    refine lv_iload_n hx hb dX0_near_33 rfl (lv_at hl 2 rfl) ?_
    refine lv_iconst (v := 5) hx hb dX0_near_34 (by decide) ?_
    refine lv_bipush (v := 19) hx hb dX0_near_35 (by decide) ?_
    refine k_X1_signedField (a0 := a0) (a1 := (5 : Int32)) (a2 := (19 : Int32)) S tl_X0_83 ⟨Nat.le_of_ble_eq_true rfl, Nat.le_of_ble_eq_true rfl⟩ hl.1 (Nat.le_of_ble_eq_true rfl) dX0_near_37 ?_
    refine lv_lmul hx hb dX0_near_40 ?_
    refine lv_ladd hx hb dX0_near_41 ?_
    refine lv_iload_n hx hb dX0_near_42 rfl (lv_at hl 0 rfl) ?_
    refine lv_iconst (v := 1) hx hb dX0_near_43 (by decide) ?_
    obtain ⟨v1, e_v1, hf⟩ := Option.bind_eq_some_iff.mp hf
    refine k_X0_find (a0 := ((F_X8_pc τ) + ((4 : Int64) * (F_X1_signedField a0 (5 : Int32) (19 : Int32))))) (a1 := s0) (a2 := true) (res := v1) (hres := e_v1) S hK hA hP hD hS tl_X0_51 ⟨Nat.le_of_ble_eq_true rfl, Nat.le_of_ble_eq_true rfl⟩ hl.1 (Nat.le_of_ble_eq_true rfl) dX0_near_44 (fun H locs hP hD hS => ?_)
    refine lv_istore_n (lv' := [(3, .int v1.1), (2, .int s0), (0, .ref (r 10)), (1, .int a0)]) hx hb dX0_near_47 rfl hl (by decide) rfl (fun ls hl => ?_)
    refine lv_iload_n hx hb dX0_near_48 rfl (lv_at hl 0 rfl) ?_
    refine lv_if_lt (tgt := 75) hx hb dX0_near_49 (by decide) (fun c_49 => ?_) (fun c_49 => ?_)
    · rw [if_pos c_49] at hf
      refine lv_iconst (v := 1) hx hb dX0_near_75 (by decide) ?_
      exact hend true v1.2 H locs 76 ls (Option.some.inj hf) hP hD hS dX0_near_76
    · rw [if_neg c_49] at hf
      refine lv_aload_n hx hb dX0_near_52 rfl (lv_at hl 2 rfl) ?_
      refine fg_X0_state S hK hP tf_X0_13 dX0_near_53 ?_
      refine lv_iload_n hx hb dX0_near_56 rfl (lv_at hl 3 rfl) ?_
      refine lv_iconst (v := 0) hx hb dX0_near_57 (by decide) ?_
      refine lv_iconst (v := 5) hx hb dX0_near_58 (by decide) ?_
      refine k_X1_field (a0 := a0) (a1 := (0 : Int32)) (a2 := (5 : Int32)) S tl_X0_21 ⟨Nat.le_of_ble_eq_true rfl, Nat.le_of_ble_eq_true rfl⟩ hl.1 (Nat.le_of_ble_eq_true rfl) dX0_near_59 ?_
      refine lv_aload_n hx hb dX0_near_62 rfl (lv_at hl 2 rfl) ?_
      refine fg_X0_memory S hK hP tf_X0_7 dX0_near_63 ?_
      refine lv_iload_n hx hb dX0_near_66 rfl (lv_at hl 0 rfl) ?_
      refine lv_i2l hx hb dX0_near_67 rfl ?_
      refine lv_iload_n hx hb dX0_near_68 rfl (lv_at hl 1 rfl) ?_
      obtain ⟨v2, e_v2, hf⟩ := Option.bind_eq_some_iff.mp hf
      refine k_X4_read (a0 := v1.1.toInt64) (a1 := s0) (res := v2) (hres := e_v2) S hK hP tl_X0_68 ⟨Nat.le_of_ble_eq_true rfl, Nat.le_of_ble_eq_true rfl⟩ hl.1 (Nat.le_of_ble_eq_true rfl) dX0_near_69 ?_
      refine k_X8_putRegister (a0 := (F_X1_field a0 (0 : Int32) (5 : Int32))) (a1 := v2) S hK hA hP hD hS tl_X0_76 ⟨Nat.le_of_ble_eq_true rfl, Nat.le_of_ble_eq_true rfl⟩ hl.1 (Nat.le_of_ble_eq_true rfl) dX0_near_72 (fun H locs hP hD hS => ?_)
      refine lv_iconst (v := 1) hx hb dX0_near_75 (by decide) ?_
      exact hend true (F_X8_putRegister v1.2 (F_X1_field a0 (0 : Int32) (5 : Int32)) v2) H locs 76 ls (Option.some.inj hf) hP hD hS dX0_near_76
  unfold F_X0_near at hf
  refine lv_iload_n hx hb dX0_near_0 rfl (lv_at hl 1 rfl) ?_
  refine lv_if_ge (tgt := 6) hx hb dX0_near_1 (by decide) (fun c_1 => ?_) (fun c_1 => ?_)
  · rw [if_pos c_1] at hf
    refine lv_iload_n hx hb dX0_near_6 rfl (lv_at hl 1 rfl) ?_
    refine lv_bipush (v := 30) hx hb dX0_near_7 (by decide) ?_
    refine k_X1_isOne (a0 := a0) (a1 := (30 : Int32)) S tl_X0_79 ⟨Nat.le_of_ble_eq_true rfl, Nat.le_of_ble_eq_true rfl⟩ hl.1 (Nat.le_of_ble_eq_true rfl) dX0_near_9 ?_
    refine gz_eq (tgt := 20) hx hb dX0_near_12 (by decide) (fun c_12 => ?_) (fun c_12 => ?_)
    · rw [if_neg c_12] at hf
      refine lv_iconst (v := 4) hx hb dX0_near_20 (by decide) ?_
      exact J_c21 σ (4 : Int32) H locs ls hf hP hD hS (lv_sub hl [0, 1] rfl)
    · rw [if_pos c_12] at hf
      refine lv_bipush (v := 8) hx hb dX0_near_15 (by decide) ?_
      refine lv_goto (tgt := 21) hx hb dX0_near_17 (by decide) ?_
      exact J_c21 σ (8 : Int32) H locs ls hf hP hD hS (lv_sub hl [0, 1] rfl)
  · rw [if_neg c_1] at hf
    refine lv_iconst (v := 0) hx hb dX0_near_4 (by decide) ?_
    exact hend false σ H locs 5 ls (Option.some.inj hf) hP hD hS dX0_near_5
theorem k_X0_near {p : Program} {l : Launch} {e : Env} {R : Room} {s : State} {m : MethodId} {args : Array Value} {below : List Frame} {meth : Method} {c : Code} {H : Heap} {locs : List Loc} {Q : State → Prop} {cc : ByteArray} {pc : Nat} {ls : Array Slot} {rest : List Value} {own : String} {index nL : Nat} {A : Nat → Prop} {z : Cx} {r : Nat → Nat} {σ : XS} {a0 : Int32} {res : Bool × XS} (hres : F_X0_near σ a0 = some res) (S : CallFix p m c cc nL s args tbG own) (hK : va_K z.1 vwCl (cxT z) s) (hA : ∀ q, s.heap.size ≤ q → A q) (hP : va_P z.1 vwCl (xW z r σ) H) (hD : va_D A (xW z r σ)) (hS : va_S A s.heap H locs) (hl : Cond.methodLink own index yX0_near ∈ tbG) (hR : 5 + 1 ≤ R.frames ∧ 8 + (4 + 11) + 136 ≤ R.locals) (hsz : ls.size = nL) (hcat : (rest.map fun v => v.category).sum ≤ 8) (hdg : decode cc pc = .ok (.invokevirtual index, 3)) (kk : ∀ (H : Heap) (locs : List Loc), va_P z.1 vwCl (xW z r res.2) H → va_D A (xW z r res.2) → va_S A s.heap H locs → W p l e R s m args below meth c H locs 0 0 Q (F0 m (pc + 3) ls (.int (zB res.1) :: rest))) : W p l e R s m args below meth c H locs 0 0 Q (F0 m pc ls (.int a0 :: .ref (r 10) :: rest)) :=
  km (As := [.int a0]) (ov := some (.int (zB res.1))) (w' := xW z r res.2) (q0 := 10) (ci := 0) S hK hA hP hD hS (c_X0_near l z r σ a0 H.size _ hres) ⟨tb_cB 1 S.2.2.2.2 tc_X0_near ti_X0 hl rfl rfl (by decide +kernel) hR, S.2.2.2.2 _ tm_X0_near, S.2.2.2.2 _ te_X0_near⟩ rfl rfl rfl rfl hsz rfl hcat hdg kk

theorem dX1_width_0 : decode cX1_width 0 = .ok (.iload_n 0, 1) := by decide +kernel
theorem dX1_width_1 : decode cX1_width 1 = .ok (.ifCond .eq 8, 3) := by decide +kernel
theorem dX1_width_4 : decode cX1_width 4 = .ok (.bipush 64, 2) := by decide +kernel
theorem dX1_width_6 : decode cX1_width 6 = .ok (.goto 5, 3) := by decide +kernel
theorem dX1_width_9 : decode cX1_width 9 = .ok (.bipush 32, 2) := by decide +kernel
theorem dX1_width_11 : decode cX1_width 11 = .ok (.ireturn, 1) := by decide +kernel
def F_X1_width (a0 : Bool) : Int32 := (if a0 = true then (64 : Int32) else (32 : Int32))
set_option maxHeartbeats 4000000 in
set_option maxRecDepth 100000 in
theorem c_X1_width (l : Launch) (a0 : Bool) (res : Int32) (hf : F_X1_width a0 = res) : Met l yX1_width (wsC yX1_width cX1_width 1 (some .int)) { frames := 0, cells := 0, slots := 0, locals := 0 } (fun v _ => v = ([.int (zB a0)] : List Value).toArray) (gS (some (.int res))) 0 0 (fun _ => False) := by
  refine mk_s_i (own := RX1) (by decide) rfl _ (Nat.le_of_ble_eq_true rfl) (fun p e s m below meth c H locs Q ls S hl hend => ?_)
  have hx := S.1
  have hb := S.2.1
  have hown := S.2.2.2.1
  have hts := S.2.2.2.2
  have hl : lv_has ls 1 [(0, .int (zB a0))] := hl
  unfold F_X1_width at hf
  refine lv_iload_n hx hb dX1_width_0 rfl (lv_at hl 0 rfl) ?_
  refine gz_eq (tgt := 9) hx hb dX1_width_1 (by decide) (fun c_1 => ?_) (fun c_1 => ?_)
  · rw [if_neg c_1] at hf
    refine lv_bipush (v := 32) hx hb dX1_width_9 (by decide) ?_
    exact hend (32 : Int32) 11 ls hf dX1_width_11
  · rw [if_pos c_1] at hf
    refine lv_bipush (v := 64) hx hb dX1_width_4 (by decide) ?_
    refine lv_goto (tgt := 11) hx hb dX1_width_6 (by decide) ?_
    exact hend (64 : Int32) 11 ls hf dX1_width_11
theorem k_X1_width {p : Program} {l : Launch} {e : Env} {R : Room} {s : State} {m : MethodId} {args : Array Value} {below : List Frame} {meth : Method} {c : Code} {H : Heap} {locs : List Loc} {Q : State → Prop} {cc : ByteArray} {pc : Nat} {ls : Array Slot} {rest : List Value} {own : String} {index nL : Nat} {a0 : Bool} (S : CallFix p m c cc nL s args tbG own) (hl : Cond.methodLink own index yX1_width ∈ tbG) (hR : 0 + 1 ≤ R.frames ∧ 8 + (1 + 11) + 0 ≤ R.locals) (hsz : ls.size = nL) (hcat : (rest.map fun v => v.category).sum ≤ 8) (hdg : decode cc pc = .ok (.invokestatic index, 3)) (kk : W p l e R s m args below meth c H locs 0 0 Q (F0 m (pc + 3) ls (.int (F_X1_width a0) :: rest))) : W p l e R s m args below meth c H locs 0 0 Q (F0 m pc ls (.int (zB a0) :: rest)) :=
  ks (As := [.int (zB a0)]) (ov := some (.int (F_X1_width a0))) S (c_X1_width l a0 _ rfl) ⟨tb_cB 1 S.2.2.2.2 tc_X1_width ti_X1 hl rfl rfl (by decide +kernel) hR, S.2.2.2.2 _ ts_X1_width⟩ rfl hsz rfl hcat hdg kk

theorem dJ13_rotateRight_b2ac5_0 : decode cJ13_rotateRight_b2ac5 0 = .ok (.lload_n 0, 1) := by decide +kernel
theorem dJ13_rotateRight_b2ac5_1 : decode cJ13_rotateRight_b2ac5 1 = .ok (.iload_n 2, 1) := by decide +kernel
theorem dJ13_rotateRight_b2ac5_2 : decode cJ13_rotateRight_b2ac5 2 = .ok (.lushr, 1) := by decide +kernel
theorem dJ13_rotateRight_b2ac5_3 : decode cJ13_rotateRight_b2ac5 3 = .ok (.lload_n 0, 1) := by decide +kernel
theorem dJ13_rotateRight_b2ac5_4 : decode cJ13_rotateRight_b2ac5 4 = .ok (.iload_n 2, 1) := by decide +kernel
theorem dJ13_rotateRight_b2ac5_5 : decode cJ13_rotateRight_b2ac5 5 = .ok (.ineg, 1) := by decide +kernel
theorem dJ13_rotateRight_b2ac5_6 : decode cJ13_rotateRight_b2ac5 6 = .ok (.lshl, 1) := by decide +kernel
theorem dJ13_rotateRight_b2ac5_7 : decode cJ13_rotateRight_b2ac5 7 = .ok (.lor, 1) := by decide +kernel
theorem dJ13_rotateRight_b2ac5_8 : decode cJ13_rotateRight_b2ac5 8 = .ok (.lreturn, 1) := by decide +kernel
def F_J13_rotateRight_b2ac5 (a0 : Int64) (a1 : Int32) : Int64 := ((j_lushr a0 a1) ||| (j_lshl a0 (-a1)))
set_option maxHeartbeats 4000000 in
set_option maxRecDepth 100000 in
theorem c_J13_rotateRight_b2ac5 (l : Launch) (a0 : Int64) (a1 : Int32) (res : Int64) (hf : F_J13_rotateRight_b2ac5 a0 a1 = res) : Met l yJ13_rotateRight_b2ac5 (wsC yJ13_rotateRight_b2ac5 cJ13_rotateRight_b2ac5 3 (some .long)) { frames := 0, cells := 0, slots := 0, locals := 0 } (fun v _ => v = ([.long a0, .int a1] : List Value).toArray) (gS (some (.long res))) 0 0 (fun _ => False) := by
  refine mk_s_l (own := RJ13) (by decide) rfl _ (Nat.le_of_ble_eq_true rfl) (fun p e s m below meth c H locs Q ls S hl hend => ?_)
  have hx := S.1
  have hb := S.2.1
  have hown := S.2.2.2.1
  have hts := S.2.2.2.2
  have hl : lv_has ls 3 [(0, .long a0), (2, .int a1)] := hl
  unfold F_J13_rotateRight_b2ac5 at hf
  refine lv_lload_n hx hb dJ13_rotateRight_b2ac5_0 rfl (lv_at hl 0 rfl) ?_
  refine lv_iload_n hx hb dJ13_rotateRight_b2ac5_1 rfl (lv_at hl 1 rfl) ?_
  refine lv_lushr (v := (j_lushr a0 a1)) hx hb dJ13_rotateRight_b2ac5_2 rfl ?_
  refine lv_lload_n hx hb dJ13_rotateRight_b2ac5_3 rfl (lv_at hl 0 rfl) ?_
  refine lv_iload_n hx hb dJ13_rotateRight_b2ac5_4 rfl (lv_at hl 1 rfl) ?_
  refine lv_ineg hx hb dJ13_rotateRight_b2ac5_5 ?_
  refine lv_lshl (v := (j_lshl a0 (-a1))) hx hb dJ13_rotateRight_b2ac5_6 rfl ?_
  refine lv_lor hx hb dJ13_rotateRight_b2ac5_7 ?_
  exact hend ((j_lushr a0 a1) ||| (j_lshl a0 (-a1))) 8 ls hf dJ13_rotateRight_b2ac5_8
theorem k_J13_rotateRight_b2ac5 {p : Program} {l : Launch} {e : Env} {R : Room} {s : State} {m : MethodId} {args : Array Value} {below : List Frame} {meth : Method} {c : Code} {H : Heap} {locs : List Loc} {Q : State → Prop} {cc : ByteArray} {pc : Nat} {ls : Array Slot} {rest : List Value} {own : String} {index nL : Nat} {a0 : Int64} {a1 : Int32} (S : CallFix p m c cc nL s args tbG own) (hl : Cond.methodLink own index yJ13_rotateRight_b2ac5 ∈ tbG) (hR : 0 + 1 ≤ R.frames ∧ 8 + (3 + 11) + 0 ≤ R.locals) (hsz : ls.size = nL) (hcat : (rest.map fun v => v.category).sum ≤ 8) (hdg : decode cc pc = .ok (.invokestatic index, 3)) (kk : W p l e R s m args below meth c H locs 0 0 Q (F0 m (pc + 3) ls (.long (F_J13_rotateRight_b2ac5 a0 a1) :: rest))) : W p l e R s m args below meth c H locs 0 0 Q (F0 m pc ls (.int a1 :: .long a0 :: rest)) :=
  ks (As := [.long a0, .int a1]) (ov := some (.long (F_J13_rotateRight_b2ac5 a0 a1))) S (c_J13_rotateRight_b2ac5 l a0 a1 _ rfl) ⟨tb_cB 2 S.2.2.2.2 tc_J13_rotateRight_b2ac5 ti_J13 hl rfl rfl (by decide +kernel) hR, S.2.2.2.2 _ ts_J13_rotateRight_b2ac5⟩ rfl hsz rfl hcat hdg kk

theorem dJ6_rotateRight_7cf53_0 : decode cJ6_rotateRight_7cf53 0 = .ok (.iload_n 0, 1) := by decide +kernel
theorem dJ6_rotateRight_7cf53_1 : decode cJ6_rotateRight_7cf53 1 = .ok (.iload_n 1, 1) := by decide +kernel
theorem dJ6_rotateRight_7cf53_2 : decode cJ6_rotateRight_7cf53 2 = .ok (.iushr, 1) := by decide +kernel
theorem dJ6_rotateRight_7cf53_3 : decode cJ6_rotateRight_7cf53 3 = .ok (.iload_n 0, 1) := by decide +kernel
theorem dJ6_rotateRight_7cf53_4 : decode cJ6_rotateRight_7cf53 4 = .ok (.iload_n 1, 1) := by decide +kernel
theorem dJ6_rotateRight_7cf53_5 : decode cJ6_rotateRight_7cf53 5 = .ok (.ineg, 1) := by decide +kernel
theorem dJ6_rotateRight_7cf53_6 : decode cJ6_rotateRight_7cf53 6 = .ok (.ishl, 1) := by decide +kernel
theorem dJ6_rotateRight_7cf53_7 : decode cJ6_rotateRight_7cf53 7 = .ok (.ior, 1) := by decide +kernel
theorem dJ6_rotateRight_7cf53_8 : decode cJ6_rotateRight_7cf53 8 = .ok (.ireturn, 1) := by decide +kernel
def F_J6_rotateRight_7cf53 (a0 : Int32) (a1 : Int32) : Int32 := ((j_iushr a0 a1) ||| (a0 <<< ((-a1) &&& 31)))
set_option maxHeartbeats 4000000 in
set_option maxRecDepth 100000 in
theorem c_J6_rotateRight_7cf53 (l : Launch) (a0 : Int32) (a1 : Int32) (res : Int32) (hf : F_J6_rotateRight_7cf53 a0 a1 = res) : Met l yJ6_rotateRight_7cf53 (wsC yJ6_rotateRight_7cf53 cJ6_rotateRight_7cf53 2 (some .int)) { frames := 0, cells := 0, slots := 0, locals := 0 } (fun v _ => v = ([.int a0, .int a1] : List Value).toArray) (gS (some (.int res))) 0 0 (fun _ => False) := by
  refine mk_s_i (own := RJ6) (by decide) rfl _ (Nat.le_of_ble_eq_true rfl) (fun p e s m below meth c H locs Q ls S hl hend => ?_)
  have hx := S.1
  have hb := S.2.1
  have hown := S.2.2.2.1
  have hts := S.2.2.2.2
  have hl : lv_has ls 2 [(0, .int a0), (1, .int a1)] := hl
  unfold F_J6_rotateRight_7cf53 at hf
  refine lv_iload_n hx hb dJ6_rotateRight_7cf53_0 rfl (lv_at hl 0 rfl) ?_
  refine lv_iload_n hx hb dJ6_rotateRight_7cf53_1 rfl (lv_at hl 1 rfl) ?_
  refine lv_iushr (v := (j_iushr a0 a1)) hx hb dJ6_rotateRight_7cf53_2 rfl ?_
  refine lv_iload_n hx hb dJ6_rotateRight_7cf53_3 rfl (lv_at hl 0 rfl) ?_
  refine lv_iload_n hx hb dJ6_rotateRight_7cf53_4 rfl (lv_at hl 1 rfl) ?_
  refine lv_ineg hx hb dJ6_rotateRight_7cf53_5 ?_
  refine lv_ishl hx hb dJ6_rotateRight_7cf53_6 ?_
  refine lv_ior hx hb dJ6_rotateRight_7cf53_7 ?_
  exact hend ((j_iushr a0 a1) ||| (a0 <<< ((-a1) &&& 31))) 8 ls hf dJ6_rotateRight_7cf53_8
theorem k_J6_rotateRight_7cf53 {p : Program} {l : Launch} {e : Env} {R : Room} {s : State} {m : MethodId} {args : Array Value} {below : List Frame} {meth : Method} {c : Code} {H : Heap} {locs : List Loc} {Q : State → Prop} {cc : ByteArray} {pc : Nat} {ls : Array Slot} {rest : List Value} {own : String} {index nL : Nat} {a0 : Int32} {a1 : Int32} (S : CallFix p m c cc nL s args tbG own) (hl : Cond.methodLink own index yJ6_rotateRight_7cf53 ∈ tbG) (hR : 0 + 1 ≤ R.frames ∧ 8 + (2 + 11) + 0 ≤ R.locals) (hsz : ls.size = nL) (hcat : (rest.map fun v => v.category).sum ≤ 8) (hdg : decode cc pc = .ok (.invokestatic index, 3)) (kk : W p l e R s m args below meth c H locs 0 0 Q (F0 m (pc + 3) ls (.int (F_J6_rotateRight_7cf53 a0 a1) :: rest))) : W p l e R s m args below meth c H locs 0 0 Q (F0 m pc ls (.int a1 :: .int a0 :: rest)) :=
  ks (As := [.int a0, .int a1]) (ov := some (.int (F_J6_rotateRight_7cf53 a0 a1))) S (c_J6_rotateRight_7cf53 l a0 a1 _ rfl) ⟨tb_cB 2 S.2.2.2.2 tc_J6_rotateRight_7cf53 ti_J6 hl rfl rfl (by decide +kernel) hR, S.2.2.2.2 _ ts_J6_rotateRight_7cf53⟩ rfl hsz rfl hcat hdg kk

theorem dX1_moved_0 : decode cX1_moved 0 = .ok (.iload_n 2, 1) := by decide +kernel
theorem dX1_moved_1 : decode cX1_moved 1 = .ok (.tableswitch 61 0 2 #[27, 36, 40], 27) := by decide +kernel
theorem dX1_moved_28 : decode cX1_moved 28 = .ok (.lload_n 0, 1) := by decide +kernel
theorem dX1_moved_29 : decode cX1_moved 29 = .ok (.iload_n 3, 1) := by decide +kernel
theorem dX1_moved_30 : decode cX1_moved 30 = .ok (.lshl, 1) := by decide +kernel
theorem dX1_moved_31 : decode cX1_moved 31 = .ok (.iload 4, 2) := by decide +kernel
theorem dX1_moved_33 : decode cX1_moved 33 = .ok (.invokestatic 13, 3) := by decide +kernel
theorem dX1_moved_36 : decode cX1_moved 36 = .ok (.lreturn, 1) := by decide +kernel
theorem dX1_moved_37 : decode cX1_moved 37 = .ok (.lload_n 0, 1) := by decide +kernel
theorem dX1_moved_38 : decode cX1_moved 38 = .ok (.iload_n 3, 1) := by decide +kernel
theorem dX1_moved_39 : decode cX1_moved 39 = .ok (.lushr, 1) := by decide +kernel
theorem dX1_moved_40 : decode cX1_moved 40 = .ok (.lreturn, 1) := by decide +kernel
theorem dX1_moved_41 : decode cX1_moved 41 = .ok (.iload 4, 2) := by decide +kernel
theorem dX1_moved_43 : decode cX1_moved 43 = .ok (.ifCond .eq 9, 3) := by decide +kernel
theorem dX1_moved_46 : decode cX1_moved 46 = .ok (.lload_n 0, 1) := by decide +kernel
theorem dX1_moved_47 : decode cX1_moved 47 = .ok (.iload_n 3, 1) := by decide +kernel
theorem dX1_moved_48 : decode cX1_moved 48 = .ok (.lshr, 1) := by decide +kernel
theorem dX1_moved_49 : decode cX1_moved 49 = .ok (.goto 12, 3) := by decide +kernel
theorem dX1_moved_52 : decode cX1_moved 52 = .ok (.lload_n 0, 1) := by decide +kernel
theorem dX1_moved_53 : decode cX1_moved 53 = .ok (.l2i, 1) := by decide +kernel
theorem dX1_moved_54 : decode cX1_moved 54 = .ok (.iload_n 3, 1) := by decide +kernel
theorem dX1_moved_55 : decode cX1_moved 55 = .ok (.ishr, 1) := by decide +kernel
theorem dX1_moved_56 : decode cX1_moved 56 = .ok (.i2l, 1) := by decide +kernel
theorem dX1_moved_57 : decode cX1_moved 57 = .ok (.ldc2_w 9, 3) := by decide +kernel
theorem dX1_moved_60 : decode cX1_moved 60 = .ok (.land, 1) := by decide +kernel
theorem dX1_moved_61 : decode cX1_moved 61 = .ok (.lreturn, 1) := by decide +kernel
theorem dX1_moved_62 : decode cX1_moved 62 = .ok (.iload 4, 2) := by decide +kernel
theorem dX1_moved_64 : decode cX1_moved 64 = .ok (.ifCond .eq 11, 3) := by decide +kernel
theorem dX1_moved_67 : decode cX1_moved 67 = .ok (.lload_n 0, 1) := by decide +kernel
theorem dX1_moved_68 : decode cX1_moved 68 = .ok (.iload_n 3, 1) := by decide +kernel
theorem dX1_moved_69 : decode cX1_moved 69 = .ok (.invokestatic 17, 3) := by decide +kernel
theorem dX1_moved_72 : decode cX1_moved 72 = .ok (.goto 14, 3) := by decide +kernel
theorem dX1_moved_75 : decode cX1_moved 75 = .ok (.lload_n 0, 1) := by decide +kernel
theorem dX1_moved_76 : decode cX1_moved 76 = .ok (.l2i, 1) := by decide +kernel
theorem dX1_moved_77 : decode cX1_moved 77 = .ok (.iload_n 3, 1) := by decide +kernel
theorem dX1_moved_78 : decode cX1_moved 78 = .ok (.invokestatic 23, 3) := by decide +kernel
theorem dX1_moved_81 : decode cX1_moved 81 = .ok (.i2l, 1) := by decide +kernel
theorem dX1_moved_82 : decode cX1_moved 82 = .ok (.ldc2_w 9, 3) := by decide +kernel
theorem dX1_moved_85 : decode cX1_moved 85 = .ok (.land, 1) := by decide +kernel
theorem dX1_moved_86 : decode cX1_moved 86 = .ok (.lreturn, 1) := by decide +kernel
def F_X1_moved (a0 : Int64) (a1 : Int32) (a2 : Int32) (a3 : Bool) : Int64 := (if a1 = 0 then (F_X1_narrow (j_lshl a0 a2) a3) else (if a1 = 1 then (j_lushr a0 a2) else (if a1 = 2 then (if a3 = true then (j_lshr a0 a2) else ((a0.toInt32 >>> (a2 &&& 31)).toInt64 &&& (4294967295 : Int64))) else (if a3 = true then (F_J13_rotateRight_b2ac5 a0 a2) else ((F_J6_rotateRight_7cf53 a0.toInt32 a2).toInt64 &&& (4294967295 : Int64))))))
set_option maxHeartbeats 4000000 in
set_option maxRecDepth 100000 in
theorem c_X1_moved (l : Launch) (a0 : Int64) (a1 : Int32) (a2 : Int32) (a3 : Bool) (res : Int64) (hf : F_X1_moved a0 a1 a2 a3 = res) : Met l yX1_moved (wsC yX1_moved cX1_moved 5 (some .long)) { frames := 1, cells := 0, slots := 0, locals := 22 } (fun v _ => v = ([.long a0, .int a1, .int a2, .int (zB a3)] : List Value).toArray) (gS (some (.long res))) 0 0 (fun _ => False) := by
  refine mk_s_l (own := RX1) (by decide) rfl _ (Nat.le_of_ble_eq_true rfl) (fun p e s m below meth c H locs Q ls S hl hend => ?_)
  have hx := S.1
  have hb := S.2.1
  have hown := S.2.2.2.1
  have hts := S.2.2.2.2
  have hl : lv_has ls 5 [(0, .long a0), (2, .int a1), (3, .int a2), (4, .int (zB a3))] := hl
  unfold F_X1_moved at hf
  refine lv_iload_n hx hb dX1_moved_0 rfl (lv_at hl 1 rfl) ?_
  by_cases c_1_0 : a1 = 0
  · rw [if_pos c_1_0] at hf
    refine gt_in (k := 0) (tgt := 28) hx hb dX1_moved_1 c_1_0 (by decide) (by decide) rfl (by decide) ?_
    refine lv_lload_n hx hb dX1_moved_28 rfl (lv_at hl 0 rfl) ?_
    refine lv_iload_n hx hb dX1_moved_29 rfl (lv_at hl 2 rfl) ?_
    refine lv_lshl (v := (j_lshl a0 a2)) hx hb dX1_moved_30 rfl ?_
    refine lv_iload hx hb dX1_moved_31 (lv_at hl 3 rfl) ?_
    refine k_X1_narrow (a0 := (j_lshl a0 a2)) (a1 := a3) S tl_X1_13 ⟨Nat.le_of_ble_eq_true rfl, Nat.le_of_ble_eq_true rfl⟩ hl.1 (Nat.le_of_ble_eq_true rfl) dX1_moved_33 ?_
    exact hend (F_X1_narrow (j_lshl a0 a2) a3) 36 ls hf dX1_moved_36
  rw [if_neg c_1_0] at hf
  by_cases c_1_1 : a1 = 1
  · rw [if_pos c_1_1] at hf
    refine gt_in (k := 1) (tgt := 37) hx hb dX1_moved_1 c_1_1 (by decide) (by decide) rfl (by decide) ?_
    refine lv_lload_n hx hb dX1_moved_37 rfl (lv_at hl 0 rfl) ?_
    refine lv_iload_n hx hb dX1_moved_38 rfl (lv_at hl 2 rfl) ?_
    refine lv_lushr (v := (j_lushr a0 a2)) hx hb dX1_moved_39 rfl ?_
    exact hend (j_lushr a0 a2) 40 ls hf dX1_moved_40
  rw [if_neg c_1_1] at hf
  by_cases c_1_2 : a1 = 2
  · rw [if_pos c_1_2] at hf
    refine gt_in (k := 2) (tgt := 41) hx hb dX1_moved_1 c_1_2 (by decide) (by decide) rfl (by decide) ?_
    refine lv_iload hx hb dX1_moved_41 (lv_at hl 3 rfl) ?_
    refine gz_eq (tgt := 52) hx hb dX1_moved_43 (by decide) (fun c_43 => ?_) (fun c_43 => ?_)
    · rw [if_neg c_43] at hf
      refine lv_lload_n hx hb dX1_moved_52 rfl (lv_at hl 0 rfl) ?_
      refine lv_l2i hx hb dX1_moved_53 rfl ?_
      refine lv_iload_n hx hb dX1_moved_54 rfl (lv_at hl 2 rfl) ?_
      refine lv_ishr hx hb dX1_moved_55 ?_
      refine lv_i2l hx hb dX1_moved_56 rfl ?_
      refine lv_ldc2 (v := 4294967295) hx hb hown (hts _ tk_X1_9) dX1_moved_57 ?_
      refine lv_land hx hb dX1_moved_60 ?_
      exact hend ((a0.toInt32 >>> (a2 &&& 31)).toInt64 &&& (4294967295 : Int64)) 61 ls hf dX1_moved_61
    · rw [if_pos c_43] at hf
      refine lv_lload_n hx hb dX1_moved_46 rfl (lv_at hl 0 rfl) ?_
      refine lv_iload_n hx hb dX1_moved_47 rfl (lv_at hl 2 rfl) ?_
      refine lv_lshr (v := (j_lshr a0 a2)) hx hb dX1_moved_48 rfl ?_
      refine lv_goto (tgt := 61) hx hb dX1_moved_49 (by decide) ?_
      exact hend (j_lshr a0 a2) 61 ls hf dX1_moved_61
  rw [if_neg c_1_2] at hf
  refine lv_tableOut (tgt := 62) hx hb dX1_moved_1 (by have q0 := lv_neT c_1_0 (show ((0 : Int32)).toInt = 0 from rfl); have q1 := lv_neT c_1_1 (show ((1 : Int32)).toInt = 1 from rfl); have q2 := lv_neT c_1_2 (show ((2 : Int32)).toInt = 2 from rfl); omega) (by decide) ?_
  refine lv_iload hx hb dX1_moved_62 (lv_at hl 3 rfl) ?_
  refine gz_eq (tgt := 75) hx hb dX1_moved_64 (by decide) (fun c_64 => ?_) (fun c_64 => ?_)
  · rw [if_neg c_64] at hf
    refine lv_lload_n hx hb dX1_moved_75 rfl (lv_at hl 0 rfl) ?_
    refine lv_l2i hx hb dX1_moved_76 rfl ?_
    refine lv_iload_n hx hb dX1_moved_77 rfl (lv_at hl 2 rfl) ?_
    refine k_J6_rotateRight_7cf53 (a0 := a0.toInt32) (a1 := a2) S tl_X1_23 ⟨Nat.le_of_ble_eq_true rfl, Nat.le_of_ble_eq_true rfl⟩ hl.1 (Nat.le_of_ble_eq_true rfl) dX1_moved_78 ?_
    refine lv_i2l hx hb dX1_moved_81 rfl ?_
    refine lv_ldc2 (v := 4294967295) hx hb hown (hts _ tk_X1_9) dX1_moved_82 ?_
    refine lv_land hx hb dX1_moved_85 ?_
    exact hend ((F_J6_rotateRight_7cf53 a0.toInt32 a2).toInt64 &&& (4294967295 : Int64)) 86 ls hf dX1_moved_86
  · rw [if_pos c_64] at hf
    refine lv_lload_n hx hb dX1_moved_67 rfl (lv_at hl 0 rfl) ?_
    refine lv_iload_n hx hb dX1_moved_68 rfl (lv_at hl 2 rfl) ?_
    refine k_J13_rotateRight_b2ac5 (a0 := a0) (a1 := a2) S tl_X1_17 ⟨Nat.le_of_ble_eq_true rfl, Nat.le_of_ble_eq_true rfl⟩ hl.1 (Nat.le_of_ble_eq_true rfl) dX1_moved_69 ?_
    refine lv_goto (tgt := 86) hx hb dX1_moved_72 (by decide) ?_
    exact hend (F_J13_rotateRight_b2ac5 a0 a2) 86 ls hf dX1_moved_86
theorem k_X1_moved {p : Program} {l : Launch} {e : Env} {R : Room} {s : State} {m : MethodId} {args : Array Value} {below : List Frame} {meth : Method} {c : Code} {H : Heap} {locs : List Loc} {Q : State → Prop} {cc : ByteArray} {pc : Nat} {ls : Array Slot} {rest : List Value} {own : String} {index nL : Nat} {a0 : Int64} {a1 : Int32} {a2 : Int32} {a3 : Bool} (S : CallFix p m c cc nL s args tbG own) (hl : Cond.methodLink own index yX1_moved ∈ tbG) (hR : 1 + 1 ≤ R.frames ∧ 8 + (5 + 11) + 22 ≤ R.locals) (hsz : ls.size = nL) (hcat : (rest.map fun v => v.category).sum ≤ 8) (hdg : decode cc pc = .ok (.invokestatic index, 3)) (kk : W p l e R s m args below meth c H locs 0 0 Q (F0 m (pc + 3) ls (.long (F_X1_moved a0 a1 a2 a3) :: rest))) : W p l e R s m args below meth c H locs 0 0 Q (F0 m pc ls (.int (zB a3) :: .int a2 :: .int a1 :: .long a0 :: rest)) :=
  ks (As := [.long a0, .int a1, .int a2, .int (zB a3)]) (ov := some (.long (F_X1_moved a0 a1 a2 a3))) S (c_X1_moved l a0 a1 a2 a3 _ rfl) ⟨tb_cB 4 S.2.2.2.2 tc_X1_moved ti_X1 hl rfl rfl (by decide +kernel) hR, S.2.2.2.2 _ ts_X1_moved⟩ rfl hsz rfl hcat hdg kk

theorem dX8_goTo_0 : decode cX8_goTo 0 = .ok (.aload_n 0, 1) := by decide +kernel
theorem dX8_goTo_1 : decode cX8_goTo 1 = .ok (.lload_n 1, 1) := by decide +kernel
theorem dX8_goTo_2 : decode cX8_goTo 2 = .ok (.putfield 41, 3) := by decide +kernel
theorem dX8_goTo_5 : decode cX8_goTo 5 = .ok (.return_, 1) := by decide +kernel
def F_X8_goTo (σ : XS) (a0 : Int64) : XS := (xuN σ a0)
set_option maxHeartbeats 4000000 in
set_option maxRecDepth 100000 in
theorem c_X8_goTo (l : Launch) (z : Cx) (r : Nat → Nat) (σ : XS) (a0 : Int64) (sz : Nat) (res : XS) (hf : F_X8_goTo σ a0 = res) : Met l yX8_goTo (wsC yX8_goTo cX8_goTo 3 none) { frames := 0, cells := 0, slots := 0, locals := 0 } (mPc z (xW z r σ) sz [.ref (r 3), .long a0]) (gM z (va_A (xW z r σ) sz) none (xW z r res)) 0 0 (va_A (xW z r σ) sz) := by
  refine mk_m_v (own := RX8) (wf := xW z r) (by decide) rfl sz _ (Nat.le_of_ble_eq_true rfl) (fun p e s m below meth c A H locs Q ls S hK hA hP hD hS hl hend => ?_)
  have hx := S.1
  have hb := S.2.1
  have hown := S.2.2.2.1
  have hts := S.2.2.2.2
  have hl : lv_has ls 3 [(0, .ref (r 3)), (1, .long a0)] := hl
  unfold F_X8_goTo at hf
  refine lv_aload_n hx hb dX8_goTo_0 rfl (lv_at hl 0 rfl) ?_
  refine lv_lload_n hx hb dX8_goTo_1 rfl (lv_at hl 1 rfl) ?_
  refine fp_X8_next (v := a0) S hK hP hD hS tf_X8_41 dX8_goTo_2 (fun H locs hP hD hS => ?_)
  exact hend (xuN σ a0) H locs 5 ls hf hP hD hS dX8_goTo_5
theorem k_X8_goTo {p : Program} {l : Launch} {e : Env} {R : Room} {s : State} {m : MethodId} {args : Array Value} {below : List Frame} {meth : Method} {c : Code} {H : Heap} {locs : List Loc} {Q : State → Prop} {cc : ByteArray} {pc : Nat} {ls : Array Slot} {rest : List Value} {own : String} {index nL : Nat} {A : Nat → Prop} {z : Cx} {r : Nat → Nat} {σ : XS} {a0 : Int64} (S : CallFix p m c cc nL s args tbG own) (hK : va_K z.1 vwCl (cxT z) s) (hA : ∀ q, s.heap.size ≤ q → A q) (hP : va_P z.1 vwCl (xW z r σ) H) (hD : va_D A (xW z r σ)) (hS : va_S A s.heap H locs) (hl : Cond.methodLink own index yX8_goTo ∈ tbG) (hR : 0 + 1 ≤ R.frames ∧ 8 + (3 + 11) + 0 ≤ R.locals) (hsz : ls.size = nL) (hcat : (rest.map fun v => v.category).sum ≤ 8) (hdg : decode cc pc = .ok (.invokevirtual index, 3)) (kk : ∀ (H : Heap) (locs : List Loc), va_P z.1 vwCl (xW z r (F_X8_goTo σ a0)) H → va_D A (xW z r (F_X8_goTo σ a0)) → va_S A s.heap H locs → W p l e R s m args below meth c H locs 0 0 Q (F0 m (pc + 3) ls (rest))) : W p l e R s m args below meth c H locs 0 0 Q (F0 m pc ls (.long a0 :: .ref (r 3) :: rest)) :=
  km (As := [.long a0]) (ov := none) (w' := xW z r (F_X8_goTo σ a0)) (q0 := 3) (ci := 7) S hK hA hP hD hS (c_X8_goTo l z r σ a0 H.size _ rfl) ⟨tb_cB 1 S.2.2.2.2 tc_X8_goTo ti_X8 hl rfl rfl (by decide +kernel) hR, S.2.2.2.2 _ tm_X8_goTo, S.2.2.2.2 _ te_X8_goTo⟩ rfl rfl rfl rfl hsz rfl hcat hdg kk

theorem dX2_jump_0 : decode cX2_jump 0 = .ok (.iload_n 1, 1) := by decide +kernel
theorem dX2_jump_1 : decode cX2_jump 1 = .ok (.ifCond .eq 23, 3) := by decide +kernel
theorem dX2_jump_4 : decode cX2_jump 4 = .ok (.aload_n 0, 1) := by decide +kernel
theorem dX2_jump_5 : decode cX2_jump 5 = .ok (.getfield 7, 3) := by decide +kernel
theorem dX2_jump_8 : decode cX2_jump 8 = .ok (.aload_n 0, 1) := by decide +kernel
theorem dX2_jump_9 : decode cX2_jump 9 = .ok (.getfield 7, 3) := by decide +kernel
theorem dX2_jump_12 : decode cX2_jump 12 = .ok (.invokevirtual 15, 3) := by decide +kernel
theorem dX2_jump_15 : decode cX2_jump 15 = .ok (.ldc2_w 19, 3) := by decide +kernel
theorem dX2_jump_18 : decode cX2_jump 18 = .ok (.lload_n 2, 1) := by decide +kernel
theorem dX2_jump_19 : decode cX2_jump 19 = .ok (.lmul, 1) := by decide +kernel
theorem dX2_jump_20 : decode cX2_jump 20 = .ok (.ladd, 1) := by decide +kernel
theorem dX2_jump_21 : decode cX2_jump 21 = .ok (.invokevirtual 55, 3) := by decide +kernel
theorem dX2_jump_24 : decode cX2_jump 24 = .ok (.iconst 1, 1) := by decide +kernel
theorem dX2_jump_25 : decode cX2_jump 25 = .ok (.ireturn, 1) := by decide +kernel
def F_X2_jump_c24 (τ : XS) (a0 : Bool) (a1 : Int64) : Bool × XS := (true, τ)
def F_X2_jump (σ : XS) (a0 : Bool) (a1 : Int64) : Bool × XS := (if a0 = true then (F_X2_jump_c24 (F_X8_goTo σ ((F_X8_pc σ) + ((4 : Int64) * a1))) a0 a1) else (true, σ))
set_option maxHeartbeats 4000000 in
set_option maxRecDepth 100000 in
theorem c_X2_jump (l : Launch) (z : Cx) (r : Nat → Nat) (σ : XS) (a0 : Bool) (a1 : Int64) (sz : Nat) (res : Bool × XS) (hf : F_X2_jump σ a0 a1 = res) : Met l yX2_jump (wsC yX2_jump cX2_jump 4 (some .boolean)) { frames := 1, cells := 0, slots := 0, locals := 22 } (mPc z (xW z r σ) sz [.ref (r 11), .int (zB a0), .long a1]) (gM z (va_A (xW z r σ) sz) (some (.int (zB res.1))) (xW z r res.2)) 0 0 (va_A (xW z r σ) sz) := by
  refine mk_m_z (own := RX2) (wf := xW z r) (by decide) rfl sz _ (Nat.le_of_ble_eq_true rfl) (fun p e s m below meth c A H locs Q ls S hK hA hP hD hS hl hend => ?_)
  have hx := S.1
  have hb := S.2.1
  have hown := S.2.2.2.1
  have hts := S.2.2.2.2
  have hl : lv_has ls 4 [(0, .ref (r 11)), (1, .int (zB a0)), (2, .long a1)] := hl
  have J_c24 : ∀ (τ : XS) (H : Heap) (locs : List Loc) (ls : Array Slot), F_X2_jump_c24 τ a0 a1 = res → va_P z.1 vwCl (xW z r τ) H → va_D A (xW z r τ) → va_S A s.heap H locs → lv_has ls 4 [] → W p l e { frames := 1, cells := 0, slots := 0, locals := 22 } s m ([.ref (r 11), .int (zB a0), .long a1] : List Value).toArray below meth c H locs 0 0 Q (F0 m 24 ls []) := by
    intro τ H locs ls hf hP hD hS hl
    unfold F_X2_jump_c24 at hf
    refine lv_iconst (v := 1) hx hb dX2_jump_24 (by decide) ?_
    exact hend true τ H locs 25 ls hf hP hD hS dX2_jump_25
  unfold F_X2_jump at hf
  refine lv_iload_n hx hb dX2_jump_0 rfl (lv_at hl 1 rfl) ?_
  refine gz_eq (tgt := 24) hx hb dX2_jump_1 (by decide) (fun c_1 => ?_) (fun c_1 => ?_)
  · rw [if_neg c_1] at hf
    refine lv_iconst (v := 1) hx hb dX2_jump_24 (by decide) ?_
    exact hend true σ H locs 25 ls hf hP hD hS dX2_jump_25
  · rw [if_pos c_1] at hf
    refine lv_aload_n hx hb dX2_jump_4 rfl (lv_at hl 0 rfl) ?_
    refine fg_X2_state S hK hP tf_X2_7 dX2_jump_5 ?_
    refine lv_aload_n hx hb dX2_jump_8 rfl (lv_at hl 0 rfl) ?_
    refine fg_X2_state S hK hP tf_X2_7 dX2_jump_9 ?_
    refine k_X8_pc S hK hP tl_X2_15 ⟨Nat.le_of_ble_eq_true rfl, Nat.le_of_ble_eq_true rfl⟩ hl.1 (Nat.le_of_ble_eq_true rfl) dX2_jump_12 ?_
    refine lv_ldc2 (v := 4) hx hb hown (hts _ tk_X2_19) dX2_jump_15 ?_
    refine lv_lload_n hx hb dX2_jump_18 rfl (lv_at hl 2 rfl) ?_
    refine lv_lmul hx hb dX2_jump_19 ?_
    refine lv_ladd hx hb dX2_jump_20 ?_
    refine k_X8_goTo (a0 := ((F_X8_pc σ) + ((4 : Int64) * a1))) S hK hA hP hD hS tl_X2_55 ⟨Nat.le_of_ble_eq_true rfl, Nat.le_of_ble_eq_true rfl⟩ hl.1 (Nat.le_of_ble_eq_true rfl) dX2_jump_21 (fun H locs hP hD hS => ?_)
    exact J_c24 (F_X8_goTo σ ((F_X8_pc σ) + ((4 : Int64) * a1))) H locs ls hf hP hD hS (lv_sub hl [] rfl)
theorem k_X2_jump {p : Program} {l : Launch} {e : Env} {R : Room} {s : State} {m : MethodId} {args : Array Value} {below : List Frame} {meth : Method} {c : Code} {H : Heap} {locs : List Loc} {Q : State → Prop} {cc : ByteArray} {pc : Nat} {ls : Array Slot} {rest : List Value} {own : String} {index nL : Nat} {A : Nat → Prop} {z : Cx} {r : Nat → Nat} {σ : XS} {a0 : Bool} {a1 : Int64} (S : CallFix p m c cc nL s args tbG own) (hK : va_K z.1 vwCl (cxT z) s) (hA : ∀ q, s.heap.size ≤ q → A q) (hP : va_P z.1 vwCl (xW z r σ) H) (hD : va_D A (xW z r σ)) (hS : va_S A s.heap H locs) (hl : Cond.methodLink own index yX2_jump ∈ tbG) (hR : 1 + 1 ≤ R.frames ∧ 8 + (4 + 11) + 22 ≤ R.locals) (hsz : ls.size = nL) (hcat : (rest.map fun v => v.category).sum ≤ 8) (hdg : decode cc pc = .ok (.invokevirtual index, 3)) (kk : ∀ (H : Heap) (locs : List Loc), va_P z.1 vwCl (xW z r (F_X2_jump σ a0 a1).2) H → va_D A (xW z r (F_X2_jump σ a0 a1).2) → va_S A s.heap H locs → W p l e R s m args below meth c H locs 0 0 Q (F0 m (pc + 3) ls (.int (zB (F_X2_jump σ a0 a1).1) :: rest))) : W p l e R s m args below meth c H locs 0 0 Q (F0 m pc ls (.long a1 :: .int (zB a0) :: .ref (r 11) :: rest)) :=
  km (As := [.int (zB a0), .long a1]) (ov := some (.int (zB (F_X2_jump σ a0 a1).1))) (w' := xW z r (F_X2_jump σ a0 a1).2) (q0 := 11) (ci := 1) S hK hA hP hD hS (c_X2_jump l z r σ a0 a1 H.size _ rfl) ⟨tb_cB 2 S.2.2.2.2 tc_X2_jump ti_X2 hl rfl rfl (by decide +kernel) hR, S.2.2.2.2 _ tm_X2_jump, S.2.2.2.2 _ te_X2_jump⟩ rfl rfl rfl rfl hsz rfl hcat hdg kk

theorem dX2_branch_0 : decode cX2_branch 0 = .ok (.iload_n 1, 1) := by decide +kernel
theorem dX2_branch_1 : decode cX2_branch 1 = .ok (.ifCond .ge 23, 3) := by decide +kernel
theorem dX2_branch_4 : decode cX2_branch 4 = .ok (.aload_n 0, 1) := by decide +kernel
theorem dX2_branch_5 : decode cX2_branch 5 = .ok (.getfield 7, 3) := by decide +kernel
theorem dX2_branch_8 : decode cX2_branch 8 = .ok (.bipush 30, 2) := by decide +kernel
theorem dX2_branch_10 : decode cX2_branch 10 = .ok (.aload_n 0, 1) := by decide +kernel
theorem dX2_branch_11 : decode cX2_branch 11 = .ok (.getfield 7, 3) := by decide +kernel
theorem dX2_branch_14 : decode cX2_branch 14 = .ok (.invokevirtual 15, 3) := by decide +kernel
theorem dX2_branch_17 : decode cX2_branch 17 = .ok (.ldc2_w 19, 3) := by decide +kernel
theorem dX2_branch_20 : decode cX2_branch 20 = .ok (.ladd, 1) := by decide +kernel
theorem dX2_branch_21 : decode cX2_branch 21 = .ok (.invokevirtual 21, 3) := by decide +kernel
theorem dX2_branch_24 : decode cX2_branch 24 = .ok (.aload_n 0, 1) := by decide +kernel
theorem dX2_branch_25 : decode cX2_branch 25 = .ok (.iconst 1, 1) := by decide +kernel
theorem dX2_branch_26 : decode cX2_branch 26 = .ok (.iload_n 1, 1) := by decide +kernel
theorem dX2_branch_27 : decode cX2_branch 27 = .ok (.iconst 0, 1) := by decide +kernel
theorem dX2_branch_28 : decode cX2_branch 28 = .ok (.bipush 26, 2) := by decide +kernel
theorem dX2_branch_30 : decode cX2_branch 30 = .ok (.invokestatic 25, 3) := by decide +kernel
theorem dX2_branch_33 : decode cX2_branch 33 = .ok (.invokevirtual 31, 3) := by decide +kernel
theorem dX2_branch_36 : decode cX2_branch 36 = .ok (.ireturn, 1) := by decide +kernel
def F_X2_branch_c36 (τ : XS) (a0 : Int32) (s0 : Bool) : Bool × XS := (s0, τ)
def F_X2_branch_c24 (τ : XS) (a0 : Int32) : Bool × XS := (F_X2_branch_c36 (F_X2_jump τ true (F_X1_signedField a0 (0 : Int32) (26 : Int32))).2 a0 (F_X2_jump τ true (F_X1_signedField a0 (0 : Int32) (26 : Int32))).1)
def F_X2_branch (σ : XS) (a0 : Int32) : Bool × XS := (if 0 ≤ a0 then (F_X2_branch_c24 σ a0) else (F_X2_branch_c24 (F_X8_putRegister σ (30 : Int32) ((F_X8_pc σ) + (4 : Int64))) a0))
set_option maxHeartbeats 4000000 in
set_option maxRecDepth 100000 in
theorem c_X2_branch (l : Launch) (z : Cx) (r : Nat → Nat) (σ : XS) (a0 : Int32) (sz : Nat) (res : Bool × XS) (hf : F_X2_branch σ a0 = res) : Met l yX2_branch (wsC yX2_branch cX2_branch 2 (some .boolean)) { frames := 2, cells := 0, slots := 0, locals := 46 } (mPc z (xW z r σ) sz [.ref (r 11), .int a0]) (gM z (va_A (xW z r σ) sz) (some (.int (zB res.1))) (xW z r res.2)) 0 0 (va_A (xW z r σ) sz) := by
  refine mk_m_z (own := RX2) (wf := xW z r) (by decide) rfl sz _ (Nat.le_of_ble_eq_true rfl) (fun p e s m below meth c A H locs Q ls S hK hA hP hD hS hl hend => ?_)
  have hx := S.1
  have hb := S.2.1
  have hown := S.2.2.2.1
  have hts := S.2.2.2.2
  have hl : lv_has ls 2 [(0, .ref (r 11)), (1, .int a0)] := hl
  have J_c36 : ∀ (τ : XS) (s0 : Bool) (H : Heap) (locs : List Loc) (ls : Array Slot), F_X2_branch_c36 τ a0 s0 = res → va_P z.1 vwCl (xW z r τ) H → va_D A (xW z r τ) → va_S A s.heap H locs → lv_has ls 2 [] → W p l e { frames := 2, cells := 0, slots := 0, locals := 46 } s m ([.ref (r 11), .int a0] : List Value).toArray below meth c H locs 0 0 Q (F0 m 36 ls [.int (zB s0)]) := by
    intro τ s0 H locs ls hf hP hD hS hl
    unfold F_X2_branch_c36 at hf
    exact hend s0 τ H locs 36 ls hf hP hD hS dX2_branch_36
  have J_c24 : ∀ (τ : XS) (H : Heap) (locs : List Loc) (ls : Array Slot), F_X2_branch_c24 τ a0 = res → va_P z.1 vwCl (xW z r τ) H → va_D A (xW z r τ) → va_S A s.heap H locs → lv_has ls 2 [(0, .ref (r 11)), (1, .int a0)] → W p l e { frames := 2, cells := 0, slots := 0, locals := 46 } s m ([.ref (r 11), .int a0] : List Value).toArray below meth c H locs 0 0 Q (F0 m 24 ls []) := by
    intro τ H locs ls hf hP hD hS hl
    unfold F_X2_branch_c24 at hf
    refine lv_aload_n hx hb dX2_branch_24 rfl (lv_at hl 0 rfl) ?_
    refine lv_iconst (v := 1) hx hb dX2_branch_25 (by decide) ?_
    refine lv_iload_n hx hb dX2_branch_26 rfl (lv_at hl 1 rfl) ?_
    refine lv_iconst (v := 0) hx hb dX2_branch_27 (by decide) ?_
    refine lv_bipush (v := 26) hx hb dX2_branch_28 (by decide) ?_
    refine k_X1_signedField (a0 := a0) (a1 := (0 : Int32)) (a2 := (26 : Int32)) S tl_X2_25 ⟨Nat.le_of_ble_eq_true rfl, Nat.le_of_ble_eq_true rfl⟩ hl.1 (Nat.le_of_ble_eq_true rfl) dX2_branch_30 ?_
    refine k_X2_jump (a0 := true) (a1 := (F_X1_signedField a0 (0 : Int32) (26 : Int32))) S hK hA hP hD hS tl_X2_31 ⟨Nat.le_of_ble_eq_true rfl, Nat.le_of_ble_eq_true rfl⟩ hl.1 (Nat.le_of_ble_eq_true rfl) dX2_branch_33 (fun H locs hP hD hS => ?_)
    exact J_c36 (F_X2_jump τ true (F_X1_signedField a0 (0 : Int32) (26 : Int32))).2 (F_X2_jump τ true (F_X1_signedField a0 (0 : Int32) (26 : Int32))).1 H locs ls hf hP hD hS (lv_sub hl [] rfl)
  unfold F_X2_branch at hf
  refine lv_iload_n hx hb dX2_branch_0 rfl (lv_at hl 1 rfl) ?_
  refine lv_if_ge (tgt := 24) hx hb dX2_branch_1 (by decide) (fun c_1 => ?_) (fun c_1 => ?_)
  · rw [if_pos c_1] at hf
    exact J_c24 σ H locs ls hf hP hD hS (lv_sub hl [0, 1] rfl)
  · rw [if_neg c_1] at hf
    refine lv_aload_n hx hb dX2_branch_4 rfl (lv_at hl 0 rfl) ?_
    refine fg_X2_state S hK hP tf_X2_7 dX2_branch_5 ?_
    refine lv_bipush (v := 30) hx hb dX2_branch_8 (by decide) ?_
    refine lv_aload_n hx hb dX2_branch_10 rfl (lv_at hl 0 rfl) ?_
    refine fg_X2_state S hK hP tf_X2_7 dX2_branch_11 ?_
    refine k_X8_pc S hK hP tl_X2_15 ⟨Nat.le_of_ble_eq_true rfl, Nat.le_of_ble_eq_true rfl⟩ hl.1 (Nat.le_of_ble_eq_true rfl) dX2_branch_14 ?_
    refine lv_ldc2 (v := 4) hx hb hown (hts _ tk_X2_19) dX2_branch_17 ?_
    refine lv_ladd hx hb dX2_branch_20 ?_
    refine k_X8_putRegister (a0 := (30 : Int32)) (a1 := ((F_X8_pc σ) + (4 : Int64))) S hK hA hP hD hS tl_X2_21 ⟨Nat.le_of_ble_eq_true rfl, Nat.le_of_ble_eq_true rfl⟩ hl.1 (Nat.le_of_ble_eq_true rfl) dX2_branch_21 (fun H locs hP hD hS => ?_)
    exact J_c24 (F_X8_putRegister σ (30 : Int32) ((F_X8_pc σ) + (4 : Int64))) H locs ls hf hP hD hS (lv_sub hl [0, 1] rfl)
theorem k_X2_branch {p : Program} {l : Launch} {e : Env} {R : Room} {s : State} {m : MethodId} {args : Array Value} {below : List Frame} {meth : Method} {c : Code} {H : Heap} {locs : List Loc} {Q : State → Prop} {cc : ByteArray} {pc : Nat} {ls : Array Slot} {rest : List Value} {own : String} {index nL : Nat} {A : Nat → Prop} {z : Cx} {r : Nat → Nat} {σ : XS} {a0 : Int32} (S : CallFix p m c cc nL s args tbG own) (hK : va_K z.1 vwCl (cxT z) s) (hA : ∀ q, s.heap.size ≤ q → A q) (hP : va_P z.1 vwCl (xW z r σ) H) (hD : va_D A (xW z r σ)) (hS : va_S A s.heap H locs) (hl : Cond.methodLink own index yX2_branch ∈ tbG) (hR : 2 + 1 ≤ R.frames ∧ 8 + (2 + 11) + 46 ≤ R.locals) (hsz : ls.size = nL) (hcat : (rest.map fun v => v.category).sum ≤ 8) (hdg : decode cc pc = .ok (.invokevirtual index, 3)) (kk : ∀ (H : Heap) (locs : List Loc), va_P z.1 vwCl (xW z r (F_X2_branch σ a0).2) H → va_D A (xW z r (F_X2_branch σ a0).2) → va_S A s.heap H locs → W p l e R s m args below meth c H locs 0 0 Q (F0 m (pc + 3) ls (.int (zB (F_X2_branch σ a0).1) :: rest))) : W p l e R s m args below meth c H locs 0 0 Q (F0 m pc ls (.int a0 :: .ref (r 11) :: rest)) :=
  km (As := [.int a0]) (ov := some (.int (zB (F_X2_branch σ a0).1))) (w' := xW z r (F_X2_branch σ a0).2) (q0 := 11) (ci := 1) S hK hA hP hD hS (c_X2_branch l z r σ a0 H.size _ rfl) ⟨tb_cB 1 S.2.2.2.2 tc_X2_branch ti_X2 hl rfl rfl (by decide +kernel) hR, S.2.2.2.2 _ tm_X2_branch, S.2.2.2.2 _ te_X2_branch⟩ rfl rfl rfl rfl hsz rfl hcat hdg kk

