theorem dX10_fault_0 : decode cX10_fault 0 = .ok (.lload_n 0, 1) := by decide +kernel
theorem dX10_fault_1 : decode cX10_fault 1 = .ok (.bipush 10, 2) := by decide +kernel
theorem dX10_fault_3 : decode cX10_fault 3 = .ok (.lushr, 1) := by decide +kernel
theorem dX10_fault_4 : decode cX10_fault 4 = .ok (.lconst 1, 1) := by decide +kernel
theorem dX10_fault_5 : decode cX10_fault 5 = .ok (.land, 1) := by decide +kernel
theorem dX10_fault_6 : decode cX10_fault 6 = .ok (.lconst 0, 1) := by decide +kernel
theorem dX10_fault_7 : decode cX10_fault 7 = .ok (.lcmp, 1) := by decide +kernel
theorem dX10_fault_8 : decode cX10_fault 8 = .ok (.ifCond .ne 6, 3) := by decide +kernel
theorem dX10_fault_11 : decode cX10_fault 11 = .ok (.bipush 8, 2) := by decide +kernel
theorem dX10_fault_13 : decode cX10_fault 13 = .ok (.ireturn, 1) := by decide +kernel
theorem dX10_fault_14 : decode cX10_fault 14 = .ok (.lload_n 0, 1) := by decide +kernel
theorem dX10_fault_15 : decode cX10_fault 15 = .ok (.iload_n 2, 1) := by decide +kernel
theorem dX10_fault_16 : decode cX10_fault 16 = .ok (.iload_n 3, 1) := by decide +kernel
theorem dX10_fault_17 : decode cX10_fault 17 = .ok (.invokestatic 55, 3) := by decide +kernel
theorem dX10_fault_20 : decode cX10_fault 20 = .ok (.ifCond .eq 7, 3) := by decide +kernel
theorem dX10_fault_23 : decode cX10_fault 23 = .ok (.iconst 0, 1) := by decide +kernel
theorem dX10_fault_24 : decode cX10_fault 24 = .ok (.goto 5, 3) := by decide +kernel
theorem dX10_fault_27 : decode cX10_fault 27 = .ok (.bipush 12, 2) := by decide +kernel
theorem dX10_fault_29 : decode cX10_fault 29 = .ok (.ireturn, 1) := by decide +kernel
def F_X10_fault (a0 : Int64) (a1 : Int32) (a2 : Int32) : Int32 := (if ((j_lushr a0 (10 : Int32)) &&& (1 : Int64)) = (0 : Int64) then (8 : Int32) else (if (F_X10_permits a0 a1 a2) = true then (0 : Int32) else (12 : Int32)))
set_option maxHeartbeats 4000000 in
set_option maxRecDepth 100000 in
theorem c_X10_fault (l : Launch) (a0 : Int64) (a1 : Int32) (a2 : Int32) (res : Int32) (hf : F_X10_fault a0 a1 a2 = res) : Met l yX10_fault (wsC yX10_fault cX10_fault 4 (some .int)) { frames := 1, cells := 0, slots := 0, locals := 25 } (fun v _ => v = ([.long a0, .int a1, .int a2] : List Value).toArray) (gS (some (.int res))) 0 0 (fun _ => False) := by
  refine mk_s_i (own := RX10) (by decide) rfl _ (Nat.le_of_ble_eq_true rfl) (fun p e s m below meth c H locs Q ls S hl hend => ?_)
  have hx := S.1
  have hb := S.2.1
  have hown := S.2.2.2.1
  have hts := S.2.2.2.2
  have hl : lv_has ls 4 [(0, .long a0), (2, .int a1), (3, .int a2)] := hl
  unfold F_X10_fault at hf
  refine lv_lload_n hx hb dX10_fault_0 rfl (lv_at hl 0 rfl) ?_
  refine lv_bipush (v := 10) hx hb dX10_fault_1 (by decide) ?_
  refine lv_lushr (v := (j_lushr a0 (10 : Int32))) hx hb dX10_fault_3 rfl ?_
  refine lv_lconst (v := 1) hx hb dX10_fault_4 (by decide) ?_
  refine lv_land hx hb dX10_fault_5 ?_
  refine lv_lconst (v := 0) hx hb dX10_fault_6 (by decide) ?_
  refine gl_ne (tgt := 14) hx hb dX10_fault_7 dX10_fault_8 (by decide) (fun c_7 => ?_) (fun c_7 => ?_)
  · rw [if_neg c_7] at hf
    refine lv_lload_n hx hb dX10_fault_14 rfl (lv_at hl 0 rfl) ?_
    refine lv_iload_n hx hb dX10_fault_15 rfl (lv_at hl 1 rfl) ?_
    refine lv_iload_n hx hb dX10_fault_16 rfl (lv_at hl 2 rfl) ?_
    refine k_X10_permits (a0 := a0) (a1 := a1) (a2 := a2) S tl_X10_55 ⟨Nat.le_of_ble_eq_true rfl, Nat.le_of_ble_eq_true rfl⟩ hl.1 (Nat.le_of_ble_eq_true rfl) dX10_fault_17 ?_
    refine gz_eq (tgt := 27) hx hb dX10_fault_20 (by decide) (fun c_20 => ?_) (fun c_20 => ?_)
    · rw [if_neg c_20] at hf
      refine lv_bipush (v := 12) hx hb dX10_fault_27 (by decide) ?_
      exact hend (12 : Int32) 29 ls hf dX10_fault_29
    · rw [if_pos c_20] at hf
      refine lv_iconst (v := 0) hx hb dX10_fault_23 (by decide) ?_
      refine lv_goto (tgt := 29) hx hb dX10_fault_24 (by decide) ?_
      exact hend (0 : Int32) 29 ls hf dX10_fault_29
  · rw [if_pos c_7] at hf
    refine lv_bipush (v := 8) hx hb dX10_fault_11 (by decide) ?_
    exact hend (8 : Int32) 13 ls hf dX10_fault_13
theorem k_X10_fault {p : Program} {l : Launch} {e : Env} {R : Room} {s : State} {m : MethodId} {args : Array Value} {below : List Frame} {meth : Method} {c : Code} {H : Heap} {locs : List Loc} {Q : State → Prop} {cc : ByteArray} {pc : Nat} {ls : Array Slot} {rest : List Value} {own : String} {index nL : Nat} {a0 : Int64} {a1 : Int32} {a2 : Int32} (S : CallFix p m c cc nL s args tbG own) (hl : Cond.methodLink own index yX10_fault ∈ tbG) (hR : 1 + 1 ≤ R.frames ∧ 8 + (4 + 11) + 25 ≤ R.locals) (hsz : ls.size = nL) (hcat : (rest.map fun v => v.category).sum ≤ 8) (hdg : decode cc pc = .ok (.invokestatic index, 3)) (kk : W p l e R s m args below meth c H locs 0 0 Q (F0 m (pc + 3) ls (.int (F_X10_fault a0 a1 a2) :: rest))) : W p l e R s m args below meth c H locs 0 0 Q (F0 m pc ls (.int a2 :: .int a1 :: .long a0 :: rest)) :=
  ks (As := [.long a0, .int a1, .int a2]) (ov := some (.int (F_X10_fault a0 a1 a2))) S (c_X10_fault l a0 a1 a2 _ rfl) ⟨tb_cB 3 S.2.2.2.2 tc_X10_fault ti_X10 hl rfl rfl (by decide +kernel) hR, S.2.2.2.2 _ ts_X10_fault⟩ rfl hsz rfl hcat hdg kk

theorem dX10_translated_0 : decode cX10_translated 0 = .ok (.lload_n 1, 1) := by decide +kernel
theorem dX10_translated_1 : decode cX10_translated 1 = .ok (.bipush 30, 2) := by decide +kernel
theorem dX10_translated_3 : decode cX10_translated 3 = .ok (.lushr, 1) := by decide +kernel
theorem dX10_translated_4 : decode cX10_translated 4 = .ok (.lconst 0, 1) := by decide +kernel
theorem dX10_translated_5 : decode cX10_translated 5 = .ok (.lcmp, 1) := by decide +kernel
theorem dX10_translated_6 : decode cX10_translated 6 = .ok (.ifCond .eq 7, 3) := by decide +kernel
theorem dX10_translated_9 : decode cX10_translated 9 = .ok (.ldc2_w 33, 3) := by decide +kernel
theorem dX10_translated_12 : decode cX10_translated 12 = .ok (.lreturn, 1) := by decide +kernel
theorem dX10_translated_13 : decode cX10_translated 13 = .ok (.aload_n 0, 1) := by decide +kernel
theorem dX10_translated_14 : decode cX10_translated 14 = .ok (.getfield 13, 3) := by decide +kernel
theorem dX10_translated_17 : decode cX10_translated 17 = .ok (.bipush 35, 2) := by decide +kernel
theorem dX10_translated_19 : decode cX10_translated 19 = .ok (.invokevirtual 19, 3) := by decide +kernel
theorem dX10_translated_22 : decode cX10_translated 22 = .ok (.ldc2_w 35, 3) := by decide +kernel
theorem dX10_translated_25 : decode cX10_translated 25 = .ok (.land, 1) := by decide +kernel
theorem dX10_translated_26 : decode cX10_translated 26 = .ok (.lstore 5, 2) := by decide +kernel
theorem dX10_translated_28 : decode cX10_translated 28 = .ok (.iconst 2, 1) := by decide +kernel
theorem dX10_translated_29 : decode cX10_translated 29 = .ok (.istore 7, 2) := by decide +kernel
theorem dX10_translated_31 : decode cX10_translated 31 = .ok (.iload 7, 2) := by decide +kernel
theorem dX10_translated_33 : decode cX10_translated 33 = .ok (.iconst 3, 1) := by decide +kernel
theorem dX10_translated_34 : decode cX10_translated 34 = .ok (.if_icmp .gt 181, 3) := by decide +kernel
theorem dX10_translated_37 : decode cX10_translated 37 = .ok (.iload 7, 2) := by decide +kernel
theorem dX10_translated_39 : decode cX10_translated 39 = .ok (.iconst 2, 1) := by decide +kernel
theorem dX10_translated_40 : decode cX10_translated 40 = .ok (.if_icmp .ne 8, 3) := by decide +kernel
theorem dX10_translated_43 : decode cX10_translated 43 = .ok (.bipush 21, 2) := by decide +kernel
theorem dX10_translated_45 : decode cX10_translated 45 = .ok (.goto 5, 3) := by decide +kernel
theorem dX10_translated_48 : decode cX10_translated 48 = .ok (.bipush 12, 2) := by decide +kernel
theorem dX10_translated_50 : decode cX10_translated 50 = .ok (.istore 8, 2) := by decide +kernel
theorem dX10_translated_52 : decode cX10_translated 52 = .ok (.lload 5, 2) := by decide +kernel
theorem dX10_translated_54 : decode cX10_translated 54 = .ok (.ldc2_w 37, 3) := by decide +kernel
theorem dX10_translated_57 : decode cX10_translated 57 = .ok (.lload_n 1, 1) := by decide +kernel
theorem dX10_translated_58 : decode cX10_translated 58 = .ok (.iload 8, 2) := by decide +kernel
theorem dX10_translated_60 : decode cX10_translated 60 = .ok (.lushr, 1) := by decide +kernel
theorem dX10_translated_61 : decode cX10_translated 61 = .ok (.ldc2_w 39, 3) := by decide +kernel
theorem dX10_translated_64 : decode cX10_translated 64 = .ok (.land, 1) := by decide +kernel
theorem dX10_translated_65 : decode cX10_translated 65 = .ok (.lmul, 1) := by decide +kernel
theorem dX10_translated_66 : decode cX10_translated 66 = .ok (.ladd, 1) := by decide +kernel
theorem dX10_translated_67 : decode cX10_translated 67 = .ok (.lstore 9, 2) := by decide +kernel
theorem dX10_translated_69 : decode cX10_translated 69 = .ok (.aload_n 0, 1) := by decide +kernel
theorem dX10_translated_70 : decode cX10_translated 70 = .ok (.getfield 7, 3) := by decide +kernel
theorem dX10_translated_73 : decode cX10_translated 73 = .ok (.lload 9, 2) := by decide +kernel
theorem dX10_translated_75 : decode cX10_translated 75 = .ok (.bipush 8, 2) := by decide +kernel
theorem dX10_translated_77 : decode cX10_translated 77 = .ok (.invokevirtual 27, 3) := by decide +kernel
theorem dX10_translated_80 : decode cX10_translated 80 = .ok (.ifCond .ne 12, 3) := by decide +kernel
theorem dX10_translated_83 : decode cX10_translated 83 = .ok (.iconst (-1), 1) := by decide +kernel
theorem dX10_translated_84 : decode cX10_translated 84 = .ok (.bipush 20, 2) := by decide +kernel
theorem dX10_translated_86 : decode cX10_translated 86 = .ok (.iload 7, 2) := by decide +kernel
theorem dX10_translated_88 : decode cX10_translated 88 = .ok (.iadd, 1) := by decide +kernel
theorem dX10_translated_89 : decode cX10_translated 89 = .ok (.isub, 1) := by decide +kernel
theorem dX10_translated_90 : decode cX10_translated 90 = .ok (.i2l, 1) := by decide +kernel
theorem dX10_translated_91 : decode cX10_translated 91 = .ok (.lreturn, 1) := by decide +kernel
theorem dX10_translated_92 : decode cX10_translated 92 = .ok (.aload_n 0, 1) := by decide +kernel
theorem dX10_translated_93 : decode cX10_translated 93 = .ok (.getfield 7, 3) := by decide +kernel
theorem dX10_translated_96 : decode cX10_translated 96 = .ok (.lload 9, 2) := by decide +kernel
theorem dX10_translated_98 : decode cX10_translated 98 = .ok (.bipush 8, 2) := by decide +kernel
theorem dX10_translated_100 : decode cX10_translated 100 = .ok (.invokevirtual 41, 3) := by decide +kernel
theorem dX10_translated_103 : decode cX10_translated 103 = .ok (.lstore 11, 2) := by decide +kernel
theorem dX10_translated_105 : decode cX10_translated 105 = .ok (.lload 11, 2) := by decide +kernel
theorem dX10_translated_107 : decode cX10_translated 107 = .ok (.ldc2_w 45, 3) := by decide +kernel
theorem dX10_translated_110 : decode cX10_translated 110 = .ok (.land, 1) := by decide +kernel
theorem dX10_translated_111 : decode cX10_translated 111 = .ok (.iload 7, 2) := by decide +kernel
theorem dX10_translated_113 : decode cX10_translated 113 = .ok (.iconst 2, 1) := by decide +kernel
theorem dX10_translated_114 : decode cX10_translated 114 = .ok (.if_icmp .ne 7, 3) := by decide +kernel
theorem dX10_translated_117 : decode cX10_translated 117 = .ok (.iconst 1, 1) := by decide +kernel
theorem dX10_translated_118 : decode cX10_translated 118 = .ok (.goto 4, 3) := by decide +kernel
theorem dX10_translated_121 : decode cX10_translated 121 = .ok (.iconst 3, 1) := by decide +kernel
theorem dX10_translated_122 : decode cX10_translated 122 = .ok (.i2l, 1) := by decide +kernel
theorem dX10_translated_123 : decode cX10_translated 123 = .ok (.lcmp, 1) := by decide +kernel
theorem dX10_translated_124 : decode cX10_translated 124 = .ok (.ifCond .ne 56, 3) := by decide +kernel
theorem dX10_translated_127 : decode cX10_translated 127 = .ok (.lload 11, 2) := by decide +kernel
theorem dX10_translated_129 : decode cX10_translated 129 = .ok (.iload_n 3, 1) := by decide +kernel
theorem dX10_translated_130 : decode cX10_translated 130 = .ok (.iload 4, 2) := by decide +kernel
theorem dX10_translated_132 : decode cX10_translated 132 = .ok (.invokestatic 47, 3) := by decide +kernel
theorem dX10_translated_135 : decode cX10_translated 135 = .ok (.istore 13, 2) := by decide +kernel
theorem dX10_translated_137 : decode cX10_translated 137 = .ok (.lconst 1, 1) := by decide +kernel
theorem dX10_translated_138 : decode cX10_translated 138 = .ok (.iload 8, 2) := by decide +kernel
theorem dX10_translated_140 : decode cX10_translated 140 = .ok (.lshl, 1) := by decide +kernel
theorem dX10_translated_141 : decode cX10_translated 141 = .ok (.lconst 1, 1) := by decide +kernel
theorem dX10_translated_142 : decode cX10_translated 142 = .ok (.lsub, 1) := by decide +kernel
theorem dX10_translated_143 : decode cX10_translated 143 = .ok (.lstore 14, 2) := by decide +kernel
theorem dX10_translated_145 : decode cX10_translated 145 = .ok (.iload 13, 2) := by decide +kernel
theorem dX10_translated_147 : decode cX10_translated 147 = .ok (.ifCond .ne 24, 3) := by decide +kernel
theorem dX10_translated_150 : decode cX10_translated 150 = .ok (.lload 11, 2) := by decide +kernel
theorem dX10_translated_152 : decode cX10_translated 152 = .ok (.ldc2_w 35, 3) := by decide +kernel
theorem dX10_translated_155 : decode cX10_translated 155 = .ok (.land, 1) := by decide +kernel
theorem dX10_translated_156 : decode cX10_translated 156 = .ok (.lload 14, 2) := by decide +kernel
theorem dX10_translated_158 : decode cX10_translated 158 = .ok (.ldc2_w 51, 3) := by decide +kernel
theorem dX10_translated_161 : decode cX10_translated 161 = .ok (.lxor, 1) := by decide +kernel
theorem dX10_translated_162 : decode cX10_translated 162 = .ok (.land, 1) := by decide +kernel
theorem dX10_translated_163 : decode cX10_translated 163 = .ok (.lload_n 1, 1) := by decide +kernel
theorem dX10_translated_164 : decode cX10_translated 164 = .ok (.lload 14, 2) := by decide +kernel
theorem dX10_translated_166 : decode cX10_translated 166 = .ok (.land, 1) := by decide +kernel
theorem dX10_translated_167 : decode cX10_translated 167 = .ok (.lor, 1) := by decide +kernel
theorem dX10_translated_168 : decode cX10_translated 168 = .ok (.goto 11, 3) := by decide +kernel
theorem dX10_translated_171 : decode cX10_translated 171 = .ok (.iconst (-1), 1) := by decide +kernel
theorem dX10_translated_172 : decode cX10_translated 172 = .ok (.iload 13, 2) := by decide +kernel
theorem dX10_translated_174 : decode cX10_translated 174 = .ok (.iload 7, 2) := by decide +kernel
theorem dX10_translated_176 : decode cX10_translated 176 = .ok (.iadd, 1) := by decide +kernel
theorem dX10_translated_177 : decode cX10_translated 177 = .ok (.isub, 1) := by decide +kernel
theorem dX10_translated_178 : decode cX10_translated 178 = .ok (.i2l, 1) := by decide +kernel
theorem dX10_translated_179 : decode cX10_translated 179 = .ok (.lreturn, 1) := by decide +kernel
theorem dX10_translated_180 : decode cX10_translated 180 = .ok (.lload 11, 2) := by decide +kernel
theorem dX10_translated_182 : decode cX10_translated 182 = .ok (.ldc2_w 45, 3) := by decide +kernel
theorem dX10_translated_185 : decode cX10_translated 185 = .ok (.land, 1) := by decide +kernel
theorem dX10_translated_186 : decode cX10_translated 186 = .ok (.ldc2_w 45, 3) := by decide +kernel
theorem dX10_translated_189 : decode cX10_translated 189 = .ok (.lcmp, 1) := by decide +kernel
theorem dX10_translated_190 : decode cX10_translated 190 = .ok (.ifCond .eq 11, 3) := by decide +kernel
theorem dX10_translated_193 : decode cX10_translated 193 = .ok (.iconst (-1), 1) := by decide +kernel
theorem dX10_translated_194 : decode cX10_translated 194 = .ok (.iconst 4, 1) := by decide +kernel
theorem dX10_translated_195 : decode cX10_translated 195 = .ok (.iload 7, 2) := by decide +kernel
theorem dX10_translated_197 : decode cX10_translated 197 = .ok (.iadd, 1) := by decide +kernel
theorem dX10_translated_198 : decode cX10_translated 198 = .ok (.isub, 1) := by decide +kernel
theorem dX10_translated_199 : decode cX10_translated 199 = .ok (.i2l, 1) := by decide +kernel
theorem dX10_translated_200 : decode cX10_translated 200 = .ok (.lreturn, 1) := by decide +kernel
theorem dX10_translated_201 : decode cX10_translated 201 = .ok (.lload 11, 2) := by decide +kernel
theorem dX10_translated_203 : decode cX10_translated 203 = .ok (.ldc2_w 35, 3) := by decide +kernel
theorem dX10_translated_206 : decode cX10_translated 206 = .ok (.land, 1) := by decide +kernel
theorem dX10_translated_207 : decode cX10_translated 207 = .ok (.lstore 5, 2) := by decide +kernel
theorem dX10_translated_209 : decode cX10_translated 209 = .ok (.iinc 7 1, 3) := by decide +kernel
theorem dX10_translated_212 : decode cX10_translated 212 = .ok (.goto (-181), 3) := by decide +kernel
theorem dX10_translated_215 : decode cX10_translated 215 = .ok (.ldc2_w 53, 3) := by decide +kernel
theorem dX10_translated_218 : decode cX10_translated 218 = .ok (.lreturn, 1) := by decide +kernel
def F_X10_translated_c122_7_3_8_12 (σ : XS) (a0 : Int64) (a1 : Int32) (a2 : Int32) (w11 : Int64) (s0 : Int64) : Option (Int64) := (if s0 = (3 : Int32).toInt64 then (if (F_X10_fault w11 a1 a2) = 0 then some ((((w11 &&& (281474976706560 : Int64)) &&& (((j_lshl (1 : Int64) (12 : Int32)) - (1 : Int64)) ^^^ (-1 : Int64))) ||| (a0 &&& ((j_lshl (1 : Int64) (12 : Int32)) - (1 : Int64))))) else some (((-1 : Int32) - ((F_X10_fault w11 a1 a2) + (3 : Int32))).toInt64)) else (if (w11 &&& (3 : Int64)) = (3 : Int64) then some ((-8 : Int64)) else some ((-8 : Int32).toInt64)))
def F_X10_translated_c50_7_3 (σ : XS) (a0 : Int64) (a1 : Int32) (a2 : Int32) (w5 : Int64) : Option (Int64) := (if (F_X4_holds σ (w5 + ((8 : Int64) * ((j_lushr a0 (12 : Int32)) &&& (511 : Int64)))) (8 : Int32)) = true then ((F_X4_read σ (w5 + ((8 : Int64) * ((j_lushr a0 (12 : Int32)) &&& (511 : Int64)))) (8 : Int32)).bind fun v2 => (F_X10_translated_c122_7_3_8_12 σ a0 a1 a2 v2 (v2 &&& (3 : Int64)))) else some ((-24 : Int32).toInt64))
def F_X10_translated_c122_7_2_8_21 (σ : XS) (a0 : Int64) (a1 : Int32) (a2 : Int32) (w11 : Int64) (s0 : Int64) : Option (Int64) := (if s0 = (1 : Int32).toInt64 then (if (F_X10_fault w11 a1 a2) = 0 then some ((((w11 &&& (281474976706560 : Int64)) &&& (((j_lshl (1 : Int64) (21 : Int32)) - (1 : Int64)) ^^^ (-1 : Int64))) ||| (a0 &&& ((j_lshl (1 : Int64) (21 : Int32)) - (1 : Int64))))) else some (((-1 : Int32) - ((F_X10_fault w11 a1 a2) + (2 : Int32))).toInt64)) else (if (w11 &&& (3 : Int64)) = (3 : Int64) then (F_X10_translated_c50_7_3 σ a0 a1 a2 (w11 &&& (281474976706560 : Int64))) else some ((-7 : Int32).toInt64)))
def F_X10_translated_c50_7_2 (σ : XS) (a0 : Int64) (a1 : Int32) (a2 : Int32) (w5 : Int64) : Option (Int64) := (if (F_X4_holds σ (w5 + ((8 : Int64) * ((j_lushr a0 (21 : Int32)) &&& (511 : Int64)))) (8 : Int32)) = true then ((F_X4_read σ (w5 + ((8 : Int64) * ((j_lushr a0 (21 : Int32)) &&& (511 : Int64)))) (8 : Int32)).bind fun v1 => (F_X10_translated_c122_7_2_8_21 σ a0 a1 a2 v1 (v1 &&& (3 : Int64)))) else some ((-23 : Int32).toInt64))
def F_X10_translated (σ : XS) (a0 : Int64) (a1 : Int32) (a2 : Int32) : Option (Int64) := (if (j_lushr a0 (30 : Int32)) = (0 : Int64) then (F_X10_translated_c50_7_2 σ a0 a1 a2 ((F_X8_part σ (35 : Int32)) &&& (281474976706560 : Int64))) else some ((-7 : Int64)))
set_option maxHeartbeats 4000000 in
set_option maxRecDepth 100000 in
theorem c_X10_translated (l : Launch) (z : Cx) (r : Nat → Nat) (σ : XS) (a0 : Int64) (a1 : Int32) (a2 : Int32) (res : Int64) (hf : F_X10_translated σ a0 a1 a2 = some res) : Met l yX10_translated (wsC yX10_translated cX10_translated 16 (some .long)) { frames := 2, cells := 0, slots := 0, locals := 48 } (rPc z (xW z r σ) [.ref (r 5), .long a0, .int a1, .int a2]) (gS (some (.long res))) 0 0 (fun _ => False) := by
  refine mk_r_l (own := RX10) (by decide) rfl _ (Nat.le_of_ble_eq_true rfl) (fun p e s m below meth c H locs Q ls S hK hP hl hend => ?_)
  have hx := S.1
  have hb := S.2.1
  have hown := S.2.2.2.1
  have hts := S.2.2.2.2
  have hl : lv_has ls 16 [(0, .ref (r 5)), (1, .long a0), (3, .int a1), (4, .int a2)] := hl
  have J_c122_7_3_8_12 : ∀ (w11 : Int64) (s0 : Int64) (ls : Array Slot), F_X10_translated_c122_7_3_8_12 σ a0 a1 a2 w11 s0 = some res → lv_has ls 16 [(0, .ref (r 5)), (1, .long a0), (3, .int a1), (4, .int a2), (7, .int (3 : Int32)), (8, .int (12 : Int32)), (11, .long w11)] → W p l e { frames := 2, cells := 0, slots := 0, locals := 48 } s m ([.ref (r 5), .long a0, .int a1, .int a2] : List Value).toArray below meth c H locs 0 0 Q (F0 m 122 ls [.int (3 : Int32), .long s0]) := by
    intro w11 s0 ls hf hl
    unfold F_X10_translated_c122_7_3_8_12 at hf
    refine lv_i2l hx hb dX10_translated_122 rfl ?_
    refine gl_ne (tgt := 180) hx hb dX10_translated_123 dX10_translated_124 (by decide) (fun c_123 => ?_) (fun c_123 => ?_)
    · rw [if_neg c_123] at hf
      refine lv_lload hx hb dX10_translated_180 (lv_at hl 6 rfl) ?_
      refine lv_ldc2 (v := 3) hx hb hown (hts _ tk_X10_45) dX10_translated_182 ?_
      refine lv_land hx hb dX10_translated_185 ?_
      refine lv_ldc2 (v := 3) hx hb hown (hts _ tk_X10_45) dX10_translated_186 ?_
      refine gl_eq (tgt := 201) hx hb dX10_translated_189 dX10_translated_190 (by decide) (fun c_189 => ?_) (fun c_189 => ?_)
      · rw [if_pos c_189] at hf
        refine lv_lload hx hb dX10_translated_201 (lv_at hl 6 rfl) ?_
        refine lv_ldc2 (v := 281474976706560) hx hb hown (hts _ tk_X10_35) dX10_translated_203 ?_
        refine lv_land hx hb dX10_translated_206 ?_
        refine lv_lstore (lv' := [(5, .long (w11 &&& (281474976706560 : Int64))), (0, .ref (r 5)), (1, .long a0), (3, .int a1), (4, .int a2), (7, .int (3 : Int32)), (8, .int (12 : Int32)), (11, .long w11)]) hx hb dX10_translated_207 hl (by decide) rfl (fun ls hl => ?_)
        refine lv_iinc (v := 4) (lv' := [(7, .int (4 : Int32)), (5, .long (w11 &&& (281474976706560 : Int64))), (0, .ref (r 5)), (1, .long a0), (3, .int a1), (4, .int a2), (8, .int (12 : Int32)), (11, .long w11)]) hx hb dX10_translated_209 hl (k := 5) rfl (by decide) (by decide) rfl (fun ls hl => ?_)
        refine lv_goto (tgt := 31) hx hb dX10_translated_212 (by decide) ?_
        refine lv_iload hx hb dX10_translated_31 (lv_at hl 0 rfl) ?_
        refine lv_iconst (v := 3) hx hb dX10_translated_33 (by decide) ?_
        refine lv_icmp_gt (tgt := 215) hx hb dX10_translated_34 (by decide) (fun c_34 => ?_) (fun c_34 => absurd c_34 (by decide))
        refine lv_ldc2 (v := -8) hx hb hown (hts _ tk_X10_53) dX10_translated_215 ?_
        exact hend (-8 : Int64) 218 ls (Option.some.inj hf) dX10_translated_218
      · rw [if_neg c_189] at hf
        refine lv_iconst (v := -1) hx hb dX10_translated_193 (by decide) ?_
        refine lv_iconst (v := 4) hx hb dX10_translated_194 (by decide) ?_
        refine lv_iload hx hb dX10_translated_195 (lv_at hl 4 rfl) ?_
        refine lv_iadd hx hb dX10_translated_197 ?_
        refine lv_topi (fun y_197 ey_197 => ?_)
        have ey_197 : y_197 = 7 := by rw [ey_197]; decide
        subst ey_197
        refine lv_isub hx hb dX10_translated_198 ?_
        refine lv_topi (fun y_198 ey_198 => ?_)
        have ey_198 : y_198 = -8 := by rw [ey_198]; decide
        subst ey_198
        refine lv_i2l hx hb dX10_translated_199 rfl ?_
        exact hend (-8 : Int32).toInt64 200 ls (Option.some.inj hf) dX10_translated_200
    · rw [if_pos c_123] at hf
      refine lv_lload hx hb dX10_translated_127 (lv_at hl 6 rfl) ?_
      refine lv_iload_n hx hb dX10_translated_129 rfl (lv_at hl 2 rfl) ?_
      refine lv_iload hx hb dX10_translated_130 (lv_at hl 3 rfl) ?_
      refine k_X10_fault (a0 := w11) (a1 := a1) (a2 := a2) S tl_X10_47 ⟨Nat.le_of_ble_eq_true rfl, Nat.le_of_ble_eq_true rfl⟩ hl.1 (Nat.le_of_ble_eq_true rfl) dX10_translated_132 ?_
      refine lv_istore (lv' := [(13, .int (F_X10_fault w11 a1 a2)), (0, .ref (r 5)), (1, .long a0), (3, .int a1), (4, .int a2), (7, .int (3 : Int32)), (8, .int (12 : Int32)), (11, .long w11)]) hx hb dX10_translated_135 hl (by decide) rfl (fun ls hl => ?_)
      refine lv_lconst (v := 1) hx hb dX10_translated_137 (by decide) ?_
      refine lv_iload hx hb dX10_translated_138 (lv_at hl 6 rfl) ?_
      refine lv_lshl (v := (j_lshl (1 : Int64) (12 : Int32))) hx hb dX10_translated_140 rfl ?_
      refine lv_lconst (v := 1) hx hb dX10_translated_141 (by decide) ?_
      refine lv_lsub hx hb dX10_translated_142 ?_
      refine lv_lstore (lv' := [(14, .long ((j_lshl (1 : Int64) (12 : Int32)) - (1 : Int64))), (13, .int (F_X10_fault w11 a1 a2)), (0, .ref (r 5)), (1, .long a0), (3, .int a1), (4, .int a2), (7, .int (3 : Int32)), (8, .int (12 : Int32)), (11, .long w11)]) hx hb dX10_translated_143 hl (by decide) rfl (fun ls hl => ?_)
      refine lv_iload hx hb dX10_translated_145 (lv_at hl 1 rfl) ?_
      refine lv_if_ne (tgt := 171) hx hb dX10_translated_147 (by decide) (fun c_147 => ?_) (fun c_147 => ?_)
      · rw [if_neg c_147] at hf
        refine lv_iconst (v := -1) hx hb dX10_translated_171 (by decide) ?_
        refine lv_iload hx hb dX10_translated_172 (lv_at hl 1 rfl) ?_
        refine lv_iload hx hb dX10_translated_174 (lv_at hl 6 rfl) ?_
        refine lv_iadd hx hb dX10_translated_176 ?_
        refine lv_isub hx hb dX10_translated_177 ?_
        refine lv_i2l hx hb dX10_translated_178 rfl ?_
        exact hend ((-1 : Int32) - ((F_X10_fault w11 a1 a2) + (3 : Int32))).toInt64 179 ls (Option.some.inj hf) dX10_translated_179
      · rw [if_pos c_147] at hf
        refine lv_lload hx hb dX10_translated_150 (lv_at hl 8 rfl) ?_
        refine lv_ldc2 (v := 281474976706560) hx hb hown (hts _ tk_X10_35) dX10_translated_152 ?_
        refine lv_land hx hb dX10_translated_155 ?_
        refine lv_lload hx hb dX10_translated_156 (lv_at hl 0 rfl) ?_
        refine lv_ldc2 (v := -1) hx hb hown (hts _ tk_X10_51) dX10_translated_158 ?_
        refine lv_lxor hx hb dX10_translated_161 ?_
        refine lv_land hx hb dX10_translated_162 ?_
        refine lv_lload_n hx hb dX10_translated_163 rfl (lv_at hl 3 rfl) ?_
        refine lv_lload hx hb dX10_translated_164 (lv_at hl 0 rfl) ?_
        refine lv_land hx hb dX10_translated_166 ?_
        refine lv_lor hx hb dX10_translated_167 ?_
        refine lv_goto (tgt := 179) hx hb dX10_translated_168 (by decide) ?_
        exact hend (((w11 &&& (281474976706560 : Int64)) &&& (((j_lshl (1 : Int64) (12 : Int32)) - (1 : Int64)) ^^^ (-1 : Int64))) ||| (a0 &&& ((j_lshl (1 : Int64) (12 : Int32)) - (1 : Int64)))) 179 ls (Option.some.inj hf) dX10_translated_179
  have J_c50_7_3 : ∀ (w5 : Int64) (ls : Array Slot), F_X10_translated_c50_7_3 σ a0 a1 a2 w5 = some res → lv_has ls 16 [(0, .ref (r 5)), (1, .long a0), (3, .int a1), (4, .int a2), (5, .long w5), (7, .int (3 : Int32))] → W p l e { frames := 2, cells := 0, slots := 0, locals := 48 } s m ([.ref (r 5), .long a0, .int a1, .int a2] : List Value).toArray below meth c H locs 0 0 Q (F0 m 50 ls [.int (12 : Int32)]) := by
    intro w5 ls hf hl
    unfold F_X10_translated_c50_7_3 at hf
    refine lv_istore (lv' := [(8, .int (12 : Int32)), (0, .ref (r 5)), (1, .long a0), (3, .int a1), (4, .int a2), (5, .long w5), (7, .int (3 : Int32))]) hx hb dX10_translated_50 hl (by decide) rfl (fun ls hl => ?_)
    refine lv_lload hx hb dX10_translated_52 (lv_at hl 5 rfl) ?_
    refine lv_ldc2 (v := 8) hx hb hown (hts _ tk_X10_37) dX10_translated_54 ?_
    refine lv_lload_n hx hb dX10_translated_57 rfl (lv_at hl 2 rfl) ?_
    refine lv_iload hx hb dX10_translated_58 (lv_at hl 0 rfl) ?_
    refine lv_lushr (v := (j_lushr a0 (12 : Int32))) hx hb dX10_translated_60 rfl ?_
    refine lv_ldc2 (v := 511) hx hb hown (hts _ tk_X10_39) dX10_translated_61 ?_
    refine lv_land hx hb dX10_translated_64 ?_
    refine lv_lmul hx hb dX10_translated_65 ?_
    refine lv_ladd hx hb dX10_translated_66 ?_
    refine lv_lstore (lv' := [(9, .long (w5 + ((8 : Int64) * ((j_lushr a0 (12 : Int32)) &&& (511 : Int64))))), (8, .int (12 : Int32)), (0, .ref (r 5)), (1, .long a0), (3, .int a1), (4, .int a2), (5, .long w5), (7, .int (3 : Int32))]) hx hb dX10_translated_67 hl (by decide) rfl (fun ls hl => ?_)
    refine lv_aload_n hx hb dX10_translated_69 rfl (lv_at hl 2 rfl) ?_
    refine fg_X10_memory S hK hP tf_X10_7 dX10_translated_70 ?_
    refine lv_lload hx hb dX10_translated_73 (lv_at hl 0 rfl) ?_
    refine lv_bipush (v := 8) hx hb dX10_translated_75 (by decide) ?_
    refine k_X4_holds (a0 := (w5 + ((8 : Int64) * ((j_lushr a0 (12 : Int32)) &&& (511 : Int64))))) (a1 := (8 : Int32)) S hK hP tl_X10_27 ⟨Nat.le_of_ble_eq_true rfl, Nat.le_of_ble_eq_true rfl⟩ hl.1 (Nat.le_of_ble_eq_true rfl) dX10_translated_77 ?_
    refine gz_ne (tgt := 92) hx hb dX10_translated_80 (by decide) (fun c_80 => ?_) (fun c_80 => ?_)
    · rw [if_pos c_80] at hf
      refine lv_aload_n hx hb dX10_translated_92 rfl (lv_at hl 2 rfl) ?_
      refine fg_X10_memory S hK hP tf_X10_7 dX10_translated_93 ?_
      refine lv_lload hx hb dX10_translated_96 (lv_at hl 0 rfl) ?_
      refine lv_bipush (v := 8) hx hb dX10_translated_98 (by decide) ?_
      obtain ⟨v2, e_v2, hf⟩ := Option.bind_eq_some_iff.mp hf
      refine k_X4_read (a0 := (w5 + ((8 : Int64) * ((j_lushr a0 (12 : Int32)) &&& (511 : Int64))))) (a1 := (8 : Int32)) (res := v2) (hres := e_v2) S hK hP tl_X10_41 ⟨Nat.le_of_ble_eq_true rfl, Nat.le_of_ble_eq_true rfl⟩ hl.1 (Nat.le_of_ble_eq_true rfl) dX10_translated_100 ?_
      refine lv_lstore (lv' := [(11, .long v2), (9, .long (w5 + ((8 : Int64) * ((j_lushr a0 (12 : Int32)) &&& (511 : Int64))))), (8, .int (12 : Int32)), (0, .ref (r 5)), (1, .long a0), (3, .int a1), (4, .int a2), (5, .long w5), (7, .int (3 : Int32))]) hx hb dX10_translated_103 hl (by decide) rfl (fun ls hl => ?_)
      refine lv_lload hx hb dX10_translated_105 (lv_at hl 0 rfl) ?_
      refine lv_ldc2 (v := 3) hx hb hown (hts _ tk_X10_45) dX10_translated_107 ?_
      refine lv_land hx hb dX10_translated_110 ?_
      refine lv_iload hx hb dX10_translated_111 (lv_at hl 8 rfl) ?_
      refine lv_iconst (v := 2) hx hb dX10_translated_113 (by decide) ?_
      refine lv_icmp_ne (tgt := 121) hx hb dX10_translated_114 (by decide) (fun c_114 => ?_) (fun c_114 => absurd c_114 (by decide))
      refine lv_iconst (v := 3) hx hb dX10_translated_121 (by decide) ?_
      exact J_c122_7_3_8_12 v2 (v2 &&& (3 : Int64)) ls hf (lv_sub hl [3, 4, 5, 6, 8, 2, 0] rfl)
    · rw [if_neg c_80] at hf
      refine lv_iconst (v := -1) hx hb dX10_translated_83 (by decide) ?_
      refine lv_bipush (v := 20) hx hb dX10_translated_84 (by decide) ?_
      refine lv_iload hx hb dX10_translated_86 (lv_at hl 7 rfl) ?_
      refine lv_iadd hx hb dX10_translated_88 ?_
      refine lv_topi (fun y_88 ey_88 => ?_)
      have ey_88 : y_88 = 23 := by rw [ey_88]; decide
      subst ey_88
      refine lv_isub hx hb dX10_translated_89 ?_
      refine lv_topi (fun y_89 ey_89 => ?_)
      have ey_89 : y_89 = -24 := by rw [ey_89]; decide
      subst ey_89
      refine lv_i2l hx hb dX10_translated_90 rfl ?_
      exact hend (-24 : Int32).toInt64 91 ls (Option.some.inj hf) dX10_translated_91
  have J_c122_7_2_8_21 : ∀ (w11 : Int64) (s0 : Int64) (ls : Array Slot), F_X10_translated_c122_7_2_8_21 σ a0 a1 a2 w11 s0 = some res → lv_has ls 16 [(0, .ref (r 5)), (1, .long a0), (3, .int a1), (4, .int a2), (7, .int (2 : Int32)), (8, .int (21 : Int32)), (11, .long w11)] → W p l e { frames := 2, cells := 0, slots := 0, locals := 48 } s m ([.ref (r 5), .long a0, .int a1, .int a2] : List Value).toArray below meth c H locs 0 0 Q (F0 m 122 ls [.int (1 : Int32), .long s0]) := by
    intro w11 s0 ls hf hl
    unfold F_X10_translated_c122_7_2_8_21 at hf
    refine lv_i2l hx hb dX10_translated_122 rfl ?_
    refine gl_ne (tgt := 180) hx hb dX10_translated_123 dX10_translated_124 (by decide) (fun c_123 => ?_) (fun c_123 => ?_)
    · rw [if_neg c_123] at hf
      refine lv_lload hx hb dX10_translated_180 (lv_at hl 6 rfl) ?_
      refine lv_ldc2 (v := 3) hx hb hown (hts _ tk_X10_45) dX10_translated_182 ?_
      refine lv_land hx hb dX10_translated_185 ?_
      refine lv_ldc2 (v := 3) hx hb hown (hts _ tk_X10_45) dX10_translated_186 ?_
      refine gl_eq (tgt := 201) hx hb dX10_translated_189 dX10_translated_190 (by decide) (fun c_189 => ?_) (fun c_189 => ?_)
      · rw [if_pos c_189] at hf
        refine lv_lload hx hb dX10_translated_201 (lv_at hl 6 rfl) ?_
        refine lv_ldc2 (v := 281474976706560) hx hb hown (hts _ tk_X10_35) dX10_translated_203 ?_
        refine lv_land hx hb dX10_translated_206 ?_
        refine lv_lstore (lv' := [(5, .long (w11 &&& (281474976706560 : Int64))), (0, .ref (r 5)), (1, .long a0), (3, .int a1), (4, .int a2), (7, .int (2 : Int32)), (8, .int (21 : Int32)), (11, .long w11)]) hx hb dX10_translated_207 hl (by decide) rfl (fun ls hl => ?_)
        refine lv_iinc (v := 3) (lv' := [(7, .int (3 : Int32)), (5, .long (w11 &&& (281474976706560 : Int64))), (0, .ref (r 5)), (1, .long a0), (3, .int a1), (4, .int a2), (8, .int (21 : Int32)), (11, .long w11)]) hx hb dX10_translated_209 hl (k := 5) rfl (by decide) (by decide) rfl (fun ls hl => ?_)
        refine lv_goto (tgt := 31) hx hb dX10_translated_212 (by decide) ?_
        refine lv_iload hx hb dX10_translated_31 (lv_at hl 0 rfl) ?_
        refine lv_iconst (v := 3) hx hb dX10_translated_33 (by decide) ?_
        refine lv_icmp_gt (tgt := 215) hx hb dX10_translated_34 (by decide) (fun c_34 => absurd c_34 (by decide)) (fun c_34 => ?_)
        refine lv_iload hx hb dX10_translated_37 (lv_at hl 0 rfl) ?_
        refine lv_iconst (v := 2) hx hb dX10_translated_39 (by decide) ?_
        refine lv_icmp_ne (tgt := 48) hx hb dX10_translated_40 (by decide) (fun c_40 => ?_) (fun c_40 => absurd c_40 (by decide))
        refine lv_bipush (v := 12) hx hb dX10_translated_48 (by decide) ?_
        exact J_c50_7_3 (w11 &&& (281474976706560 : Int64)) ls hf (lv_sub hl [2, 3, 4, 5, 1, 0] rfl)
      · rw [if_neg c_189] at hf
        refine lv_iconst (v := -1) hx hb dX10_translated_193 (by decide) ?_
        refine lv_iconst (v := 4) hx hb dX10_translated_194 (by decide) ?_
        refine lv_iload hx hb dX10_translated_195 (lv_at hl 4 rfl) ?_
        refine lv_iadd hx hb dX10_translated_197 ?_
        refine lv_topi (fun y_197 ey_197 => ?_)
        have ey_197 : y_197 = 6 := by rw [ey_197]; decide
        subst ey_197
        refine lv_isub hx hb dX10_translated_198 ?_
        refine lv_topi (fun y_198 ey_198 => ?_)
        have ey_198 : y_198 = -7 := by rw [ey_198]; decide
        subst ey_198
        refine lv_i2l hx hb dX10_translated_199 rfl ?_
        exact hend (-7 : Int32).toInt64 200 ls (Option.some.inj hf) dX10_translated_200
    · rw [if_pos c_123] at hf
      refine lv_lload hx hb dX10_translated_127 (lv_at hl 6 rfl) ?_
      refine lv_iload_n hx hb dX10_translated_129 rfl (lv_at hl 2 rfl) ?_
      refine lv_iload hx hb dX10_translated_130 (lv_at hl 3 rfl) ?_
      refine k_X10_fault (a0 := w11) (a1 := a1) (a2 := a2) S tl_X10_47 ⟨Nat.le_of_ble_eq_true rfl, Nat.le_of_ble_eq_true rfl⟩ hl.1 (Nat.le_of_ble_eq_true rfl) dX10_translated_132 ?_
      refine lv_istore (lv' := [(13, .int (F_X10_fault w11 a1 a2)), (0, .ref (r 5)), (1, .long a0), (3, .int a1), (4, .int a2), (7, .int (2 : Int32)), (8, .int (21 : Int32)), (11, .long w11)]) hx hb dX10_translated_135 hl (by decide) rfl (fun ls hl => ?_)
      refine lv_lconst (v := 1) hx hb dX10_translated_137 (by decide) ?_
      refine lv_iload hx hb dX10_translated_138 (lv_at hl 6 rfl) ?_
      refine lv_lshl (v := (j_lshl (1 : Int64) (21 : Int32))) hx hb dX10_translated_140 rfl ?_
      refine lv_lconst (v := 1) hx hb dX10_translated_141 (by decide) ?_
      refine lv_lsub hx hb dX10_translated_142 ?_
      refine lv_lstore (lv' := [(14, .long ((j_lshl (1 : Int64) (21 : Int32)) - (1 : Int64))), (13, .int (F_X10_fault w11 a1 a2)), (0, .ref (r 5)), (1, .long a0), (3, .int a1), (4, .int a2), (7, .int (2 : Int32)), (8, .int (21 : Int32)), (11, .long w11)]) hx hb dX10_translated_143 hl (by decide) rfl (fun ls hl => ?_)
      refine lv_iload hx hb dX10_translated_145 (lv_at hl 1 rfl) ?_
      refine lv_if_ne (tgt := 171) hx hb dX10_translated_147 (by decide) (fun c_147 => ?_) (fun c_147 => ?_)
      · rw [if_neg c_147] at hf
        refine lv_iconst (v := -1) hx hb dX10_translated_171 (by decide) ?_
        refine lv_iload hx hb dX10_translated_172 (lv_at hl 1 rfl) ?_
        refine lv_iload hx hb dX10_translated_174 (lv_at hl 6 rfl) ?_
        refine lv_iadd hx hb dX10_translated_176 ?_
        refine lv_isub hx hb dX10_translated_177 ?_
        refine lv_i2l hx hb dX10_translated_178 rfl ?_
        exact hend ((-1 : Int32) - ((F_X10_fault w11 a1 a2) + (2 : Int32))).toInt64 179 ls (Option.some.inj hf) dX10_translated_179
      · rw [if_pos c_147] at hf
        refine lv_lload hx hb dX10_translated_150 (lv_at hl 8 rfl) ?_
        refine lv_ldc2 (v := 281474976706560) hx hb hown (hts _ tk_X10_35) dX10_translated_152 ?_
        refine lv_land hx hb dX10_translated_155 ?_
        refine lv_lload hx hb dX10_translated_156 (lv_at hl 0 rfl) ?_
        refine lv_ldc2 (v := -1) hx hb hown (hts _ tk_X10_51) dX10_translated_158 ?_
        refine lv_lxor hx hb dX10_translated_161 ?_
        refine lv_land hx hb dX10_translated_162 ?_
        refine lv_lload_n hx hb dX10_translated_163 rfl (lv_at hl 3 rfl) ?_
        refine lv_lload hx hb dX10_translated_164 (lv_at hl 0 rfl) ?_
        refine lv_land hx hb dX10_translated_166 ?_
        refine lv_lor hx hb dX10_translated_167 ?_
        refine lv_goto (tgt := 179) hx hb dX10_translated_168 (by decide) ?_
        exact hend (((w11 &&& (281474976706560 : Int64)) &&& (((j_lshl (1 : Int64) (21 : Int32)) - (1 : Int64)) ^^^ (-1 : Int64))) ||| (a0 &&& ((j_lshl (1 : Int64) (21 : Int32)) - (1 : Int64)))) 179 ls (Option.some.inj hf) dX10_translated_179
  have J_c50_7_2 : ∀ (w5 : Int64) (ls : Array Slot), F_X10_translated_c50_7_2 σ a0 a1 a2 w5 = some res → lv_has ls 16 [(0, .ref (r 5)), (1, .long a0), (3, .int a1), (4, .int a2), (5, .long w5), (7, .int (2 : Int32))] → W p l e { frames := 2, cells := 0, slots := 0, locals := 48 } s m ([.ref (r 5), .long a0, .int a1, .int a2] : List Value).toArray below meth c H locs 0 0 Q (F0 m 50 ls [.int (21 : Int32)]) := by
    intro w5 ls hf hl
    unfold F_X10_translated_c50_7_2 at hf
    refine lv_istore (lv' := [(8, .int (21 : Int32)), (0, .ref (r 5)), (1, .long a0), (3, .int a1), (4, .int a2), (5, .long w5), (7, .int (2 : Int32))]) hx hb dX10_translated_50 hl (by decide) rfl (fun ls hl => ?_)
    refine lv_lload hx hb dX10_translated_52 (lv_at hl 5 rfl) ?_
    refine lv_ldc2 (v := 8) hx hb hown (hts _ tk_X10_37) dX10_translated_54 ?_
    refine lv_lload_n hx hb dX10_translated_57 rfl (lv_at hl 2 rfl) ?_
    refine lv_iload hx hb dX10_translated_58 (lv_at hl 0 rfl) ?_
    refine lv_lushr (v := (j_lushr a0 (21 : Int32))) hx hb dX10_translated_60 rfl ?_
    refine lv_ldc2 (v := 511) hx hb hown (hts _ tk_X10_39) dX10_translated_61 ?_
    refine lv_land hx hb dX10_translated_64 ?_
    refine lv_lmul hx hb dX10_translated_65 ?_
    refine lv_ladd hx hb dX10_translated_66 ?_
    refine lv_lstore (lv' := [(9, .long (w5 + ((8 : Int64) * ((j_lushr a0 (21 : Int32)) &&& (511 : Int64))))), (8, .int (21 : Int32)), (0, .ref (r 5)), (1, .long a0), (3, .int a1), (4, .int a2), (5, .long w5), (7, .int (2 : Int32))]) hx hb dX10_translated_67 hl (by decide) rfl (fun ls hl => ?_)
    refine lv_aload_n hx hb dX10_translated_69 rfl (lv_at hl 2 rfl) ?_
    refine fg_X10_memory S hK hP tf_X10_7 dX10_translated_70 ?_
    refine lv_lload hx hb dX10_translated_73 (lv_at hl 0 rfl) ?_
    refine lv_bipush (v := 8) hx hb dX10_translated_75 (by decide) ?_
    refine k_X4_holds (a0 := (w5 + ((8 : Int64) * ((j_lushr a0 (21 : Int32)) &&& (511 : Int64))))) (a1 := (8 : Int32)) S hK hP tl_X10_27 ⟨Nat.le_of_ble_eq_true rfl, Nat.le_of_ble_eq_true rfl⟩ hl.1 (Nat.le_of_ble_eq_true rfl) dX10_translated_77 ?_
    refine gz_ne (tgt := 92) hx hb dX10_translated_80 (by decide) (fun c_80 => ?_) (fun c_80 => ?_)
    · rw [if_pos c_80] at hf
      refine lv_aload_n hx hb dX10_translated_92 rfl (lv_at hl 2 rfl) ?_
      refine fg_X10_memory S hK hP tf_X10_7 dX10_translated_93 ?_
      refine lv_lload hx hb dX10_translated_96 (lv_at hl 0 rfl) ?_
      refine lv_bipush (v := 8) hx hb dX10_translated_98 (by decide) ?_
      obtain ⟨v1, e_v1, hf⟩ := Option.bind_eq_some_iff.mp hf
      refine k_X4_read (a0 := (w5 + ((8 : Int64) * ((j_lushr a0 (21 : Int32)) &&& (511 : Int64))))) (a1 := (8 : Int32)) (res := v1) (hres := e_v1) S hK hP tl_X10_41 ⟨Nat.le_of_ble_eq_true rfl, Nat.le_of_ble_eq_true rfl⟩ hl.1 (Nat.le_of_ble_eq_true rfl) dX10_translated_100 ?_
      refine lv_lstore (lv' := [(11, .long v1), (9, .long (w5 + ((8 : Int64) * ((j_lushr a0 (21 : Int32)) &&& (511 : Int64))))), (8, .int (21 : Int32)), (0, .ref (r 5)), (1, .long a0), (3, .int a1), (4, .int a2), (5, .long w5), (7, .int (2 : Int32))]) hx hb dX10_translated_103 hl (by decide) rfl (fun ls hl => ?_)
      refine lv_lload hx hb dX10_translated_105 (lv_at hl 0 rfl) ?_
      refine lv_ldc2 (v := 3) hx hb hown (hts _ tk_X10_45) dX10_translated_107 ?_
      refine lv_land hx hb dX10_translated_110 ?_
      refine lv_iload hx hb dX10_translated_111 (lv_at hl 8 rfl) ?_
      refine lv_iconst (v := 2) hx hb dX10_translated_113 (by decide) ?_
      refine lv_icmp_ne (tgt := 121) hx hb dX10_translated_114 (by decide) (fun c_114 => absurd c_114 (by decide)) (fun c_114 => ?_)
      refine lv_iconst (v := 1) hx hb dX10_translated_117 (by decide) ?_
      refine lv_goto (tgt := 122) hx hb dX10_translated_118 (by decide) ?_
      exact J_c122_7_2_8_21 v1 (v1 &&& (3 : Int64)) ls hf (lv_sub hl [3, 4, 5, 6, 8, 2, 0] rfl)
    · rw [if_neg c_80] at hf
      refine lv_iconst (v := -1) hx hb dX10_translated_83 (by decide) ?_
      refine lv_bipush (v := 20) hx hb dX10_translated_84 (by decide) ?_
      refine lv_iload hx hb dX10_translated_86 (lv_at hl 7 rfl) ?_
      refine lv_iadd hx hb dX10_translated_88 ?_
      refine lv_topi (fun y_88 ey_88 => ?_)
      have ey_88 : y_88 = 22 := by rw [ey_88]; decide
      subst ey_88
      refine lv_isub hx hb dX10_translated_89 ?_
      refine lv_topi (fun y_89 ey_89 => ?_)
      have ey_89 : y_89 = -23 := by rw [ey_89]; decide
      subst ey_89
      refine lv_i2l hx hb dX10_translated_90 rfl ?_
      exact hend (-23 : Int32).toInt64 91 ls (Option.some.inj hf) dX10_translated_91
  unfold F_X10_translated at hf
  refine lv_lload_n hx hb dX10_translated_0 rfl (lv_at hl 1 rfl) ?_
  refine lv_bipush (v := 30) hx hb dX10_translated_1 (by decide) ?_
  refine lv_lushr (v := (j_lushr a0 (30 : Int32))) hx hb dX10_translated_3 rfl ?_
  refine lv_lconst (v := 0) hx hb dX10_translated_4 (by decide) ?_
  refine gl_eq (tgt := 13) hx hb dX10_translated_5 dX10_translated_6 (by decide) (fun c_5 => ?_) (fun c_5 => ?_)
  · rw [if_pos c_5] at hf
    refine lv_aload_n hx hb dX10_translated_13 rfl (lv_at hl 0 rfl) ?_
    refine fg_X10_state S hK hP tf_X10_13 dX10_translated_14 ?_
    refine lv_bipush (v := 35) hx hb dX10_translated_17 (by decide) ?_
    refine k_X8_part (a0 := (35 : Int32)) S hK hP tl_X10_19 ⟨Nat.le_of_ble_eq_true rfl, Nat.le_of_ble_eq_true rfl⟩ hl.1 (Nat.le_of_ble_eq_true rfl) dX10_translated_19 ?_
    refine lv_ldc2 (v := 281474976706560) hx hb hown (hts _ tk_X10_35) dX10_translated_22 ?_
    refine lv_land hx hb dX10_translated_25 ?_
    refine lv_lstore (lv' := [(5, .long ((F_X8_part σ (35 : Int32)) &&& (281474976706560 : Int64))), (0, .ref (r 5)), (1, .long a0), (3, .int a1), (4, .int a2)]) hx hb dX10_translated_26 hl (by decide) rfl (fun ls hl => ?_)
    refine lv_iconst (v := 2) hx hb dX10_translated_28 (by decide) ?_
    refine lv_istore (lv' := [(7, .int (2 : Int32)), (5, .long ((F_X8_part σ (35 : Int32)) &&& (281474976706560 : Int64))), (0, .ref (r 5)), (1, .long a0), (3, .int a1), (4, .int a2)]) hx hb dX10_translated_29 hl (by decide) rfl (fun ls hl => ?_)
    refine lv_iload hx hb dX10_translated_31 (lv_at hl 0 rfl) ?_
    refine lv_iconst (v := 3) hx hb dX10_translated_33 (by decide) ?_
    refine lv_icmp_gt (tgt := 215) hx hb dX10_translated_34 (by decide) (fun c_34 => absurd c_34 (by decide)) (fun c_34 => ?_)
    refine lv_iload hx hb dX10_translated_37 (lv_at hl 0 rfl) ?_
    refine lv_iconst (v := 2) hx hb dX10_translated_39 (by decide) ?_
    refine lv_icmp_ne (tgt := 48) hx hb dX10_translated_40 (by decide) (fun c_40 => absurd c_40 (by decide)) (fun c_40 => ?_)
    refine lv_bipush (v := 21) hx hb dX10_translated_43 (by decide) ?_
    refine lv_goto (tgt := 50) hx hb dX10_translated_45 (by decide) ?_
    exact J_c50_7_2 ((F_X8_part σ (35 : Int32)) &&& (281474976706560 : Int64)) ls hf (lv_sub hl [2, 3, 4, 5, 1, 0] rfl)
  · rw [if_neg c_5] at hf
    refine lv_ldc2 (v := -7) hx hb hown (hts _ tk_X10_33) dX10_translated_9 ?_
    exact hend (-7 : Int64) 12 ls (Option.some.inj hf) dX10_translated_12
theorem k_X10_translated {p : Program} {l : Launch} {e : Env} {R : Room} {s : State} {m : MethodId} {args : Array Value} {below : List Frame} {meth : Method} {c : Code} {H : Heap} {locs : List Loc} {Q : State → Prop} {cc : ByteArray} {pc : Nat} {ls : Array Slot} {rest : List Value} {own : String} {index nL : Nat} {z : Cx} {r : Nat → Nat} {σ : XS} {a0 : Int64} {a1 : Int32} {a2 : Int32} {res : Int64} (hres : F_X10_translated σ a0 a1 a2 = some res) (S : CallFix p m c cc nL s args tbG own) (hK : va_K z.1 vwCl (cxT z) s) (hP : va_P z.1 vwCl (xW z r σ) H) (hl : Cond.methodLink own index yX10_translated ∈ tbG) (hR : 2 + 1 ≤ R.frames ∧ 8 + (16 + 11) + 48 ≤ R.locals) (hsz : ls.size = nL) (hcat : (rest.map fun v => v.category).sum ≤ 8) (hdg : decode cc pc = .ok (.invokevirtual index, 3)) (kk : W p l e R s m args below meth c H locs 0 0 Q (F0 m (pc + 3) ls (.long res :: rest))) : W p l e R s m args below meth c H locs 0 0 Q (F0 m pc ls (.int a2 :: .int a1 :: .long a0 :: .ref (r 5) :: rest)) :=
  kr (As := [.long a0, .int a1, .int a2]) (ov := some (.long res)) (q0 := 5) (ci := 9) S hK hP (c_X10_translated l z r σ a0 a1 a2 _ hres) ⟨tb_cB 3 S.2.2.2.2 tc_X10_translated ti_X10 hl rfl rfl (by decide +kernel) hR, S.2.2.2.2 _ tm_X10_translated, S.2.2.2.2 _ te_X10_translated⟩ rfl rfl rfl rfl hsz rfl hcat hdg kk

theorem dX10_find_0 : decode cX10_find 0 = .ok (.lload_n 1, 1) := by decide +kernel
theorem dX10_find_1 : decode cX10_find 1 = .ok (.iload_n 3, 1) := by decide +kernel
theorem dX10_find_2 : decode cX10_find 2 = .ok (.iconst 1, 1) := by decide +kernel
theorem dX10_find_3 : decode cX10_find 3 = .ok (.isub, 1) := by decide +kernel
theorem dX10_find_4 : decode cX10_find 4 = .ok (.i2l, 1) := by decide +kernel
theorem dX10_find_5 : decode cX10_find 5 = .ok (.land, 1) := by decide +kernel
theorem dX10_find_6 : decode cX10_find 6 = .ok (.lconst 0, 1) := by decide +kernel
theorem dX10_find_7 : decode cX10_find 7 = .ok (.lcmp, 1) := by decide +kernel
theorem dX10_find_8 : decode cX10_find 8 = .ok (.ifCond .eq 6, 3) := by decide +kernel
theorem dX10_find_11 : decode cX10_find 11 = .ok (.bipush (-34), 2) := by decide +kernel
theorem dX10_find_13 : decode cX10_find 13 = .ok (.ireturn, 1) := by decide +kernel
theorem dX10_find_14 : decode cX10_find 14 = .ok (.lload_n 1, 1) := by decide +kernel
theorem dX10_find_15 : decode cX10_find 15 = .ok (.lstore 6, 2) := by decide +kernel
theorem dX10_find_17 : decode cX10_find 17 = .ok (.aload_n 0, 1) := by decide +kernel
theorem dX10_find_18 : decode cX10_find 18 = .ok (.getfield 13, 3) := by decide +kernel
theorem dX10_find_21 : decode cX10_find 21 = .ok (.bipush 34, 2) := by decide +kernel
theorem dX10_find_23 : decode cX10_find 23 = .ok (.invokevirtual 19, 3) := by decide +kernel
theorem dX10_find_26 : decode cX10_find 26 = .ok (.lconst 1, 1) := by decide +kernel
theorem dX10_find_27 : decode cX10_find 27 = .ok (.land, 1) := by decide +kernel
theorem dX10_find_28 : decode cX10_find 28 = .ok (.lconst 0, 1) := by decide +kernel
theorem dX10_find_29 : decode cX10_find 29 = .ok (.lcmp, 1) := by decide +kernel
theorem dX10_find_30 : decode cX10_find 30 = .ok (.ifCond .eq 25, 3) := by decide +kernel
theorem dX10_find_33 : decode cX10_find 33 = .ok (.aload_n 0, 1) := by decide +kernel
theorem dX10_find_34 : decode cX10_find 34 = .ok (.lload_n 1, 1) := by decide +kernel
theorem dX10_find_35 : decode cX10_find 35 = .ok (.iload 4, 2) := by decide +kernel
theorem dX10_find_37 : decode cX10_find 37 = .ok (.iload 5, 2) := by decide +kernel
theorem dX10_find_39 : decode cX10_find 39 = .ok (.invokevirtual 23, 3) := by decide +kernel
theorem dX10_find_42 : decode cX10_find 42 = .ok (.lstore 6, 2) := by decide +kernel
theorem dX10_find_44 : decode cX10_find 44 = .ok (.lload 6, 2) := by decide +kernel
theorem dX10_find_46 : decode cX10_find 46 = .ok (.lconst 0, 1) := by decide +kernel
theorem dX10_find_47 : decode cX10_find 47 = .ok (.lcmp, 1) := by decide +kernel
theorem dX10_find_48 : decode cX10_find 48 = .ok (.ifCond .ge 7, 3) := by decide +kernel
theorem dX10_find_51 : decode cX10_find 51 = .ok (.lload 6, 2) := by decide +kernel
theorem dX10_find_53 : decode cX10_find 53 = .ok (.l2i, 1) := by decide +kernel
theorem dX10_find_54 : decode cX10_find 54 = .ok (.ireturn, 1) := by decide +kernel
theorem dX10_find_55 : decode cX10_find 55 = .ok (.aload_n 0, 1) := by decide +kernel
theorem dX10_find_56 : decode cX10_find 56 = .ok (.getfield 7, 3) := by decide +kernel
theorem dX10_find_59 : decode cX10_find 59 = .ok (.lload 6, 2) := by decide +kernel
theorem dX10_find_61 : decode cX10_find 61 = .ok (.iload_n 3, 1) := by decide +kernel
theorem dX10_find_62 : decode cX10_find 62 = .ok (.invokevirtual 27, 3) := by decide +kernel
theorem dX10_find_65 : decode cX10_find 65 = .ok (.ifCond .eq 9, 3) := by decide +kernel
theorem dX10_find_68 : decode cX10_find 68 = .ok (.lload 6, 2) := by decide +kernel
theorem dX10_find_70 : decode cX10_find 70 = .ok (.l2i, 1) := by decide +kernel
theorem dX10_find_71 : decode cX10_find 71 = .ok (.goto 5, 3) := by decide +kernel
theorem dX10_find_74 : decode cX10_find 74 = .ok (.bipush (-17), 2) := by decide +kernel
theorem dX10_find_76 : decode cX10_find 76 = .ok (.ireturn, 1) := by decide +kernel
def F_X10_find_c55 (σ : XS) (a0 : Int64) (a1 : Int32) (a2 : Int32) (a3 : Int32) (w6 : Int64) : Option (Int32) := (if (F_X4_holds σ w6 a1) = true then some (w6.toInt32) else some ((-17 : Int32)))
def F_X10_find (σ : XS) (a0 : Int64) (a1 : Int32) (a2 : Int32) (a3 : Int32) : Option (Int32) := (if (a0 &&& (a1 - (1 : Int32)).toInt64) = (0 : Int64) then (if ((F_X8_part σ (34 : Int32)) &&& (1 : Int64)) = (0 : Int64) then (F_X10_find_c55 σ a0 a1 a2 a3 a0) else ((F_X10_translated σ a0 a2 a3).bind fun v1 => (if (0 : Int64) ≤ v1 then (F_X10_find_c55 σ a0 a1 a2 a3 v1) else some (v1.toInt32)))) else some ((-34 : Int32)))
set_option maxHeartbeats 4000000 in
set_option maxRecDepth 100000 in
theorem c_X10_find (l : Launch) (z : Cx) (r : Nat → Nat) (σ : XS) (a0 : Int64) (a1 : Int32) (a2 : Int32) (a3 : Int32) (res : Int32) (hf : F_X10_find σ a0 a1 a2 a3 = some res) : Met l yX10_find (wsC yX10_find cX10_find 8 (some .int)) { frames := 3, cells := 0, slots := 0, locals := 83 } (rPc z (xW z r σ) [.ref (r 5), .long a0, .int a1, .int a2, .int a3]) (gS (some (.int res))) 0 0 (fun _ => False) := by
  refine mk_r_i (own := RX10) (by decide) rfl _ (Nat.le_of_ble_eq_true rfl) (fun p e s m below meth c H locs Q ls S hK hP hl hend => ?_)
  have hx := S.1
  have hb := S.2.1
  have hown := S.2.2.2.1
  have hts := S.2.2.2.2
  have hl : lv_has ls 8 [(0, .ref (r 5)), (1, .long a0), (3, .int a1), (4, .int a2), (5, .int a3)] := hl
  have J_c55 : ∀ (w6 : Int64) (ls : Array Slot), F_X10_find_c55 σ a0 a1 a2 a3 w6 = some res → lv_has ls 8 [(0, .ref (r 5)), (3, .int a1), (6, .long w6)] → W p l e { frames := 3, cells := 0, slots := 0, locals := 83 } s m ([.ref (r 5), .long a0, .int a1, .int a2, .int a3] : List Value).toArray below meth c H locs 0 0 Q (F0 m 55 ls []) := by
    intro w6 ls hf hl
    unfold F_X10_find_c55 at hf
    refine lv_aload_n hx hb dX10_find_55 rfl (lv_at hl 0 rfl) ?_
    refine fg_X10_memory S hK hP tf_X10_7 dX10_find_56 ?_
    refine lv_lload hx hb dX10_find_59 (lv_at hl 2 rfl) ?_
    refine lv_iload_n hx hb dX10_find_61 rfl (lv_at hl 1 rfl) ?_
    refine k_X4_holds (a0 := w6) (a1 := a1) S hK hP tl_X10_27 ⟨Nat.le_of_ble_eq_true rfl, Nat.le_of_ble_eq_true rfl⟩ hl.1 (Nat.le_of_ble_eq_true rfl) dX10_find_62 ?_
    refine gz_eq (tgt := 74) hx hb dX10_find_65 (by decide) (fun c_65 => ?_) (fun c_65 => ?_)
    · rw [if_neg c_65] at hf
      refine lv_bipush (v := -17) hx hb dX10_find_74 (by decide) ?_
      exact hend (-17 : Int32) 76 ls (Option.some.inj hf) dX10_find_76
    · rw [if_pos c_65] at hf
      refine lv_lload hx hb dX10_find_68 (lv_at hl 2 rfl) ?_
      refine lv_l2i hx hb dX10_find_70 rfl ?_
      refine lv_goto (tgt := 76) hx hb dX10_find_71 (by decide) ?_
      exact hend w6.toInt32 76 ls (Option.some.inj hf) dX10_find_76
  unfold F_X10_find at hf
  refine lv_lload_n hx hb dX10_find_0 rfl (lv_at hl 1 rfl) ?_
  refine lv_iload_n hx hb dX10_find_1 rfl (lv_at hl 2 rfl) ?_
  refine lv_iconst (v := 1) hx hb dX10_find_2 (by decide) ?_
  refine lv_isub hx hb dX10_find_3 ?_
  refine lv_i2l hx hb dX10_find_4 rfl ?_
  refine lv_land hx hb dX10_find_5 ?_
  refine lv_lconst (v := 0) hx hb dX10_find_6 (by decide) ?_
  refine gl_eq (tgt := 14) hx hb dX10_find_7 dX10_find_8 (by decide) (fun c_7 => ?_) (fun c_7 => ?_)
  · rw [if_pos c_7] at hf
    refine lv_lload_n hx hb dX10_find_14 rfl (lv_at hl 1 rfl) ?_
    refine lv_lstore (lv' := [(6, .long a0), (0, .ref (r 5)), (1, .long a0), (3, .int a1), (4, .int a2), (5, .int a3)]) hx hb dX10_find_15 hl (by decide) rfl (fun ls hl => ?_)
    refine lv_aload_n hx hb dX10_find_17 rfl (lv_at hl 1 rfl) ?_
    refine fg_X10_state S hK hP tf_X10_13 dX10_find_18 ?_
    refine lv_bipush (v := 34) hx hb dX10_find_21 (by decide) ?_
    refine k_X8_part (a0 := (34 : Int32)) S hK hP tl_X10_19 ⟨Nat.le_of_ble_eq_true rfl, Nat.le_of_ble_eq_true rfl⟩ hl.1 (Nat.le_of_ble_eq_true rfl) dX10_find_23 ?_
    refine lv_lconst (v := 1) hx hb dX10_find_26 (by decide) ?_
    refine lv_land hx hb dX10_find_27 ?_
    refine lv_lconst (v := 0) hx hb dX10_find_28 (by decide) ?_
    refine gl_eq (tgt := 55) hx hb dX10_find_29 dX10_find_30 (by decide) (fun c_29 => ?_) (fun c_29 => ?_)
    · rw [if_pos c_29] at hf
      exact J_c55 a0 ls hf (lv_sub hl [1, 3, 0] rfl)
    · rw [if_neg c_29] at hf
      refine lv_aload_n hx hb dX10_find_33 rfl (lv_at hl 1 rfl) ?_
      refine lv_lload_n hx hb dX10_find_34 rfl (lv_at hl 2 rfl) ?_
      refine lv_iload hx hb dX10_find_35 (lv_at hl 4 rfl) ?_
      refine lv_iload hx hb dX10_find_37 (lv_at hl 5 rfl) ?_
      obtain ⟨v1, e_v1, hf⟩ := Option.bind_eq_some_iff.mp hf
      refine k_X10_translated (a0 := a0) (a1 := a2) (a2 := a3) (res := v1) (hres := e_v1) S hK hP tl_X10_23 ⟨Nat.le_of_ble_eq_true rfl, Nat.le_of_ble_eq_true rfl⟩ hl.1 (Nat.le_of_ble_eq_true rfl) dX10_find_39 ?_
      refine lv_lstore (lv' := [(6, .long v1), (0, .ref (r 5)), (1, .long a0), (3, .int a1), (4, .int a2), (5, .int a3)]) hx hb dX10_find_42 hl (by decide) rfl (fun ls hl => ?_)
      refine lv_lload hx hb dX10_find_44 (lv_at hl 0 rfl) ?_
      refine lv_lconst (v := 0) hx hb dX10_find_46 (by decide) ?_
      refine gl_ge (tgt := 55) hx hb dX10_find_47 dX10_find_48 (by decide) (fun c_47 => ?_) (fun c_47 => ?_)
      · rw [if_pos c_47] at hf
        exact J_c55 v1 ls hf (lv_sub hl [1, 3, 0] rfl)
      · rw [if_neg c_47] at hf
        refine lv_lload hx hb dX10_find_51 (lv_at hl 0 rfl) ?_
        refine lv_l2i hx hb dX10_find_53 rfl ?_
        exact hend v1.toInt32 54 ls (Option.some.inj hf) dX10_find_54
  · rw [if_neg c_7] at hf
    refine lv_bipush (v := -34) hx hb dX10_find_11 (by decide) ?_
    exact hend (-34 : Int32) 13 ls (Option.some.inj hf) dX10_find_13
theorem k_X10_find {p : Program} {l : Launch} {e : Env} {R : Room} {s : State} {m : MethodId} {args : Array Value} {below : List Frame} {meth : Method} {c : Code} {H : Heap} {locs : List Loc} {Q : State → Prop} {cc : ByteArray} {pc : Nat} {ls : Array Slot} {rest : List Value} {own : String} {index nL : Nat} {z : Cx} {r : Nat → Nat} {σ : XS} {a0 : Int64} {a1 : Int32} {a2 : Int32} {a3 : Int32} {res : Int32} (hres : F_X10_find σ a0 a1 a2 a3 = some res) (S : CallFix p m c cc nL s args tbG own) (hK : va_K z.1 vwCl (cxT z) s) (hP : va_P z.1 vwCl (xW z r σ) H) (hl : Cond.methodLink own index yX10_find ∈ tbG) (hR : 3 + 1 ≤ R.frames ∧ 8 + (8 + 11) + 83 ≤ R.locals) (hsz : ls.size = nL) (hcat : (rest.map fun v => v.category).sum ≤ 8) (hdg : decode cc pc = .ok (.invokevirtual index, 3)) (kk : W p l e R s m args below meth c H locs 0 0 Q (F0 m (pc + 3) ls (.int res :: rest))) : W p l e R s m args below meth c H locs 0 0 Q (F0 m pc ls (.int a3 :: .int a2 :: .int a1 :: .long a0 :: .ref (r 5) :: rest)) :=
  kr (As := [.long a0, .int a1, .int a2, .int a3]) (ov := some (.int res)) (q0 := 5) (ci := 9) S hK hP (c_X10_find l z r σ a0 a1 a2 a3 _ hres) ⟨tb_cB 4 S.2.2.2.2 tc_X10_find ti_X10 hl rfl rfl (by decide +kernel) hR, S.2.2.2.2 _ tm_X10_find, S.2.2.2.2 _ te_X10_find⟩ rfl rfl rfl rfl hsz rfl hcat hdg kk

theorem dX8_raiseAt_0 : decode cX8_raiseAt 0 = .ok (.aload_n 0, 1) := by decide +kernel
theorem dX8_raiseAt_1 : decode cX8_raiseAt 1 = .ok (.getfield 9, 3) := by decide +kernel
theorem dX8_raiseAt_4 : decode cX8_raiseAt 4 = .ok (.bipush 40, 2) := by decide +kernel
theorem dX8_raiseAt_6 : decode cX8_raiseAt 6 = .ok (.lload_n 1, 1) := by decide +kernel
theorem dX8_raiseAt_7 : decode cX8_raiseAt 7 = .ok (.lastore, 1) := by decide +kernel
theorem dX8_raiseAt_8 : decode cX8_raiseAt 8 = .ok (.aload_n 0, 1) := by decide +kernel
theorem dX8_raiseAt_9 : decode cX8_raiseAt 9 = .ok (.iload_n 3, 1) := by decide +kernel
theorem dX8_raiseAt_10 : decode cX8_raiseAt 10 = .ok (.iload 4, 2) := by decide +kernel
theorem dX8_raiseAt_12 : decode cX8_raiseAt 12 = .ok (.invokevirtual 49, 3) := by decide +kernel
theorem dX8_raiseAt_15 : decode cX8_raiseAt 15 = .ok (.aload_n 0, 1) := by decide +kernel
theorem dX8_raiseAt_16 : decode cX8_raiseAt 16 = .ok (.aload_n 0, 1) := by decide +kernel
theorem dX8_raiseAt_17 : decode cX8_raiseAt 17 = .ok (.getfield 9, 3) := by decide +kernel
theorem dX8_raiseAt_20 : decode cX8_raiseAt 20 = .ok (.bipush 33, 2) := by decide +kernel
theorem dX8_raiseAt_22 : decode cX8_raiseAt 22 = .ok (.laload, 1) := by decide +kernel
theorem dX8_raiseAt_23 : decode cX8_raiseAt 23 = .ok (.iconst 0, 1) := by decide +kernel
theorem dX8_raiseAt_24 : decode cX8_raiseAt 24 = .ok (.invokevirtual 45, 3) := by decide +kernel
theorem dX8_raiseAt_27 : decode cX8_raiseAt 27 = .ok (.return_, 1) := by decide +kernel
def F_X8_raiseAt_c27 (τ : XS) (a0 : Int64) (a1 : Int32) (a2 : Int32) : XS := τ
def F_X8_raiseAt_c15 (τ : XS) (a0 : Int64) (a1 : Int32) (a2 : Int32) : XS := (F_X8_raiseAt_c27 (F_X8_enter τ (xP τ (33 : Int32).toNatClampNeg) (0 : Int32)) a0 a1 a2)
def F_X8_raiseAt (σ : XS) (a0 : Int64) (a1 : Int32) (a2 : Int32) : XS := (F_X8_raiseAt_c15 (F_X8_tell (xuP σ (vp_updL (xP σ) (40 : Int32).toNatClampNeg a0)) a1 a2) a0 a1 a2)
set_option maxHeartbeats 4000000 in
set_option maxRecDepth 100000 in
theorem c_X8_raiseAt (l : Launch) (z : Cx) (r : Nat → Nat) (σ : XS) (a0 : Int64) (a1 : Int32) (a2 : Int32) (sz : Nat) (res : XS) (hf : F_X8_raiseAt σ a0 a1 a2 = res) : Met l yX8_raiseAt (wsC yX8_raiseAt cX8_raiseAt 5 none) { frames := 1, cells := 0, slots := 0, locals := 27 } (mPc z (xW z r σ) sz [.ref (r 3), .long a0, .int a1, .int a2]) (gM z (va_A (xW z r σ) sz) none (xW z r res)) 0 0 (va_A (xW z r σ) sz) := by
  refine mk_m_v (own := RX8) (wf := xW z r) (by decide) rfl sz _ (Nat.le_of_ble_eq_true rfl) (fun p e s m below meth c A H locs Q ls S hK hA hP hD hS hl hend => ?_)
  have hx := S.1
  have hb := S.2.1
  have hown := S.2.2.2.1
  have hts := S.2.2.2.2
  have hl : lv_has ls 5 [(0, .ref (r 3)), (1, .long a0), (3, .int a1), (4, .int a2)] := hl
  have J_c27 : ∀ (τ : XS) (H : Heap) (locs : List Loc) (ls : Array Slot), F_X8_raiseAt_c27 τ a0 a1 a2 = res → va_P z.1 vwCl (xW z r τ) H → va_D A (xW z r τ) → va_S A s.heap H locs → lv_has ls 5 [] → W p l e { frames := 1, cells := 0, slots := 0, locals := 27 } s m ([.ref (r 3), .long a0, .int a1, .int a2] : List Value).toArray below meth c H locs 0 0 Q (F0 m 27 ls []) := by
    intro τ H locs ls hf hP hD hS hl
    unfold F_X8_raiseAt_c27 at hf
    exact hend τ H locs 27 ls hf hP hD hS dX8_raiseAt_27
  have J_c15 : ∀ (τ : XS) (H : Heap) (locs : List Loc) (ls : Array Slot), F_X8_raiseAt_c15 τ a0 a1 a2 = res → va_P z.1 vwCl (xW z r τ) H → va_D A (xW z r τ) → va_S A s.heap H locs → lv_has ls 5 [(0, .ref (r 3))] → W p l e { frames := 1, cells := 0, slots := 0, locals := 27 } s m ([.ref (r 3), .long a0, .int a1, .int a2] : List Value).toArray below meth c H locs 0 0 Q (F0 m 15 ls []) := by
    intro τ H locs ls hf hP hD hS hl
    unfold F_X8_raiseAt_c15 at hf
    refine lv_aload_n hx hb dX8_raiseAt_15 rfl (lv_at hl 0 rfl) ?_
    refine lv_aload_n hx hb dX8_raiseAt_16 rfl (lv_at hl 0 rfl) ?_
    refine fg_X8_parts S hK hP tf_X8_9 dX8_raiseAt_17 ?_
    refine lv_bipush (v := 33) hx hb dX8_raiseAt_20 (by decide) ?_
    refine al_xP S hK hP (show vp_in (33 : Int32) 46 by unfold vp_in; decide) dX8_raiseAt_22 ?_
    refine lv_iconst (v := 0) hx hb dX8_raiseAt_23 (by decide) ?_
    refine k_X8_enter (a0 := (xP τ (33 : Int32).toNatClampNeg)) (a1 := (0 : Int32)) S hK hA hP hD hS tl_X8_45 ⟨Nat.le_of_ble_eq_true rfl, Nat.le_of_ble_eq_true rfl⟩ hl.1 (Nat.le_of_ble_eq_true rfl) dX8_raiseAt_24 (fun H locs hP hD hS => ?_)
    exact J_c27 (F_X8_enter τ (xP τ (33 : Int32).toNatClampNeg) (0 : Int32)) H locs ls hf hP hD hS (lv_sub hl [] rfl)
  unfold F_X8_raiseAt at hf
  refine lv_aload_n hx hb dX8_raiseAt_0 rfl (lv_at hl 0 rfl) ?_
  refine fg_X8_parts S hK hP tf_X8_9 dX8_raiseAt_1 ?_
  refine lv_bipush (v := 40) hx hb dX8_raiseAt_4 (by decide) ?_
  refine lv_lload_n hx hb dX8_raiseAt_6 rfl (lv_at hl 1 rfl) ?_
  refine ar_xP (x := a0) S hK hP hD hS (show vp_in (40 : Int32) 46 by unfold vp_in; decide) dX8_raiseAt_7 (fun H locs hP hD hS => ?_)
  refine lv_aload_n hx hb dX8_raiseAt_8 rfl (lv_at hl 0 rfl) ?_
  refine lv_iload_n hx hb dX8_raiseAt_9 rfl (lv_at hl 2 rfl) ?_
  refine lv_iload hx hb dX8_raiseAt_10 (lv_at hl 3 rfl) ?_
  refine k_X8_tell (a0 := a1) (a1 := a2) S hK hA hP hD hS tl_X8_49 ⟨Nat.le_of_ble_eq_true rfl, Nat.le_of_ble_eq_true rfl⟩ hl.1 (Nat.le_of_ble_eq_true rfl) dX8_raiseAt_12 (fun H locs hP hD hS => ?_)
  exact J_c15 (F_X8_tell (xuP σ (vp_updL (xP σ) (40 : Int32).toNatClampNeg a0)) a1 a2) H locs ls hf hP hD hS (lv_sub hl [0] rfl)
theorem k_X8_raiseAt {p : Program} {l : Launch} {e : Env} {R : Room} {s : State} {m : MethodId} {args : Array Value} {below : List Frame} {meth : Method} {c : Code} {H : Heap} {locs : List Loc} {Q : State → Prop} {cc : ByteArray} {pc : Nat} {ls : Array Slot} {rest : List Value} {own : String} {index nL : Nat} {A : Nat → Prop} {z : Cx} {r : Nat → Nat} {σ : XS} {a0 : Int64} {a1 : Int32} {a2 : Int32} (S : CallFix p m c cc nL s args tbG own) (hK : va_K z.1 vwCl (cxT z) s) (hA : ∀ q, s.heap.size ≤ q → A q) (hP : va_P z.1 vwCl (xW z r σ) H) (hD : va_D A (xW z r σ)) (hS : va_S A s.heap H locs) (hl : Cond.methodLink own index yX8_raiseAt ∈ tbG) (hR : 1 + 1 ≤ R.frames ∧ 8 + (5 + 11) + 27 ≤ R.locals) (hsz : ls.size = nL) (hcat : (rest.map fun v => v.category).sum ≤ 8) (hdg : decode cc pc = .ok (.invokevirtual index, 3)) (kk : ∀ (H : Heap) (locs : List Loc), va_P z.1 vwCl (xW z r (F_X8_raiseAt σ a0 a1 a2)) H → va_D A (xW z r (F_X8_raiseAt σ a0 a1 a2)) → va_S A s.heap H locs → W p l e R s m args below meth c H locs 0 0 Q (F0 m (pc + 3) ls (rest))) : W p l e R s m args below meth c H locs 0 0 Q (F0 m pc ls (.int a2 :: .int a1 :: .long a0 :: .ref (r 3) :: rest)) :=
  km (As := [.long a0, .int a1, .int a2]) (ov := none) (w' := xW z r (F_X8_raiseAt σ a0 a1 a2)) (q0 := 3) (ci := 7) S hK hA hP hD hS (c_X8_raiseAt l z r σ a0 a1 a2 H.size _ rfl) ⟨tb_cB 3 S.2.2.2.2 tc_X8_raiseAt ti_X8 hl rfl rfl (by decide +kernel) hR, S.2.2.2.2 _ tm_X8_raiseAt, S.2.2.2.2 _ te_X8_raiseAt⟩ rfl rfl rfl rfl hsz rfl hcat hdg kk

theorem dX0_find_0 : decode cX0_find 0 = .ok (.aload_n 0, 1) := by decide +kernel
theorem dX0_find_1 : decode cX0_find 1 = .ok (.getfield 17, 3) := by decide +kernel
theorem dX0_find_4 : decode cX0_find 4 = .ok (.lload_n 1, 1) := by decide +kernel
theorem dX0_find_5 : decode cX0_find 5 = .ok (.iload_n 3, 1) := by decide +kernel
theorem dX0_find_6 : decode cX0_find 6 = .ok (.iload 4, 2) := by decide +kernel
theorem dX0_find_8 : decode cX0_find 8 = .ok (.ifCond .eq 7, 3) := by decide +kernel
theorem dX0_find_11 : decode cX0_find 11 = .ok (.iconst 0, 1) := by decide +kernel
theorem dX0_find_12 : decode cX0_find 12 = .ok (.goto 4, 3) := by decide +kernel
theorem dX0_find_15 : decode cX0_find 15 = .ok (.iconst 1, 1) := by decide +kernel
theorem dX0_find_16 : decode cX0_find 16 = .ok (.aload_n 0, 1) := by decide +kernel
theorem dX0_find_17 : decode cX0_find 17 = .ok (.getfield 13, 3) := by decide +kernel
theorem dX0_find_20 : decode cX0_find 20 = .ok (.invokevirtual 103, 3) := by decide +kernel
theorem dX0_find_23 : decode cX0_find 23 = .ok (.invokevirtual 107, 3) := by decide +kernel
theorem dX0_find_26 : decode cX0_find 26 = .ok (.istore 5, 2) := by decide +kernel
theorem dX0_find_28 : decode cX0_find 28 = .ok (.iload 5, 2) := by decide +kernel
theorem dX0_find_30 : decode cX0_find 30 = .ok (.ifCond .ge 41, 3) := by decide +kernel
theorem dX0_find_33 : decode cX0_find 33 = .ok (.iconst (-1), 1) := by decide +kernel
theorem dX0_find_34 : decode cX0_find 34 = .ok (.iload 5, 2) := by decide +kernel
theorem dX0_find_36 : decode cX0_find 36 = .ok (.isub, 1) := by decide +kernel
theorem dX0_find_37 : decode cX0_find 37 = .ok (.iload 4, 2) := by decide +kernel
theorem dX0_find_39 : decode cX0_find 39 = .ok (.ifCond .eq 7, 3) := by decide +kernel
theorem dX0_find_42 : decode cX0_find 42 = .ok (.iconst 0, 1) := by decide +kernel
theorem dX0_find_43 : decode cX0_find 43 = .ok (.goto 5, 3) := by decide +kernel
theorem dX0_find_46 : decode cX0_find 46 = .ok (.bipush 64, 2) := by decide +kernel
theorem dX0_find_48 : decode cX0_find 48 = .ok (.iadd, 1) := by decide +kernel
theorem dX0_find_49 : decode cX0_find 49 = .ok (.istore 6, 2) := by decide +kernel
theorem dX0_find_51 : decode cX0_find 51 = .ok (.aload_n 0, 1) := by decide +kernel
theorem dX0_find_52 : decode cX0_find 52 = .ok (.getfield 13, 3) := by decide +kernel
theorem dX0_find_55 : decode cX0_find 55 = .ok (.lload_n 1, 1) := by decide +kernel
theorem dX0_find_56 : decode cX0_find 56 = .ok (.bipush 36, 2) := by decide +kernel
theorem dX0_find_58 : decode cX0_find 58 = .ok (.aload_n 0, 1) := by decide +kernel
theorem dX0_find_59 : decode cX0_find 59 = .ok (.getfield 13, 3) := by decide +kernel
theorem dX0_find_62 : decode cX0_find 62 = .ok (.invokevirtual 103, 3) := by decide +kernel
theorem dX0_find_65 : decode cX0_find 65 = .ok (.iadd, 1) := by decide +kernel
theorem dX0_find_66 : decode cX0_find 66 = .ok (.iload 6, 2) := by decide +kernel
theorem dX0_find_68 : decode cX0_find 68 = .ok (.invokevirtual 110, 3) := by decide +kernel
theorem dX0_find_71 : decode cX0_find 71 = .ok (.iload 5, 2) := by decide +kernel
theorem dX0_find_73 : decode cX0_find 73 = .ok (.ireturn, 1) := by decide +kernel
def F_X0_find_c48 (τ : XS) (a0 : Int64) (a1 : Int32) (a2 : Bool) (w5 : Int32) (s0 : Int32) (s1 : Int32) : Option (Int32 × XS) := some ((w5, (F_X8_raiseAt τ a0 ((36 : Int32) + (F_X8_level τ)) (s0 + s1))))
def F_X0_find_c16 (τ : XS) (a0 : Int64) (a1 : Int32) (a2 : Bool) (s1 : Int64) (s2 : Int32) (s3 : Bool) : Option (Int32 × XS) := ((F_X10_find τ s1 s2 (zB s3) (F_X8_level τ)).bind fun v1 => (if 0 ≤ v1 then some ((v1, τ)) else (if a2 = true then (F_X0_find_c48 τ a0 a1 a2 v1 ((-1 : Int32) - v1) (0 : Int32)) else (F_X0_find_c48 τ a0 a1 a2 v1 ((-1 : Int32) - v1) (64 : Int32)))))
def F_X0_find (σ : XS) (a0 : Int64) (a1 : Int32) (a2 : Bool) : Option (Int32 × XS) := (if a2 = true then (F_X0_find_c16 σ a0 a1 a2 a0 a1 false) else (F_X0_find_c16 σ a0 a1 a2 a0 a1 true))
set_option maxHeartbeats 4000000 in
set_option maxRecDepth 100000 in
theorem c_X0_find (l : Launch) (z : Cx) (r : Nat → Nat) (σ : XS) (a0 : Int64) (a1 : Int32) (a2 : Bool) (sz : Nat) (res : Int32 × XS) (hf : F_X0_find σ a0 a1 a2 = some res) : Met l yX0_find (wsC yX0_find cX0_find 7 (some .int)) { frames := 4, cells := 0, slots := 0, locals := 110 } (mPc z (xW z r σ) sz [.ref (r 10), .long a0, .int a1, .int (zB a2)]) (gM z (va_A (xW z r σ) sz) (some (.int res.1)) (xW z r res.2)) 0 0 (va_A (xW z r σ) sz) := by
  refine mk_m_i (own := RX0) (wf := xW z r) (by decide) rfl sz _ (Nat.le_of_ble_eq_true rfl) (fun p e s m below meth c A H locs Q ls S hK hA hP hD hS hl hend => ?_)
  have hx := S.1
  have hb := S.2.1
  have hown := S.2.2.2.1
  have hts := S.2.2.2.2
  have hl : lv_has ls 7 [(0, .ref (r 10)), (1, .long a0), (3, .int a1), (4, .int (zB a2))] := hl
  have J_c48 : ∀ (τ : XS) (w5 : Int32) (s0 : Int32) (s1 : Int32) (H : Heap) (locs : List Loc) (ls : Array Slot), F_X0_find_c48 τ a0 a1 a2 w5 s0 s1 = some res → va_P z.1 vwCl (xW z r τ) H → va_D A (xW z r τ) → va_S A s.heap H locs → lv_has ls 7 [(0, .ref (r 10)), (1, .long a0), (5, .int w5)] → W p l e { frames := 4, cells := 0, slots := 0, locals := 110 } s m ([.ref (r 10), .long a0, .int a1, .int (zB a2)] : List Value).toArray below meth c H locs 0 0 Q (F0 m 48 ls [.int s1, .int s0]) := by
    intro τ w5 s0 s1 H locs ls hf hP hD hS hl
    unfold F_X0_find_c48 at hf
    refine lv_iadd hx hb dX0_find_48 ?_
    refine lv_istore (lv' := [(6, .int (s0 + s1)), (0, .ref (r 10)), (1, .long a0), (5, .int w5)]) hx hb dX0_find_49 hl (by decide) rfl (fun ls hl => ?_)
    refine lv_aload_n hx hb dX0_find_51 rfl (lv_at hl 1 rfl) ?_
    refine fg_X0_state S hK hP tf_X0_13 dX0_find_52 ?_
    refine lv_lload_n hx hb dX0_find_55 rfl (lv_at hl 2 rfl) ?_
    refine lv_bipush (v := 36) hx hb dX0_find_56 (by decide) ?_
    refine lv_aload_n hx hb dX0_find_58 rfl (lv_at hl 1 rfl) ?_
    refine fg_X0_state S hK hP tf_X0_13 dX0_find_59 ?_
    refine k_X8_level S hK hP tl_X0_103 ⟨Nat.le_of_ble_eq_true rfl, Nat.le_of_ble_eq_true rfl⟩ hl.1 (Nat.le_of_ble_eq_true rfl) dX0_find_62 ?_
    refine lv_iadd hx hb dX0_find_65 ?_
    refine lv_iload hx hb dX0_find_66 (lv_at hl 0 rfl) ?_
    refine k_X8_raiseAt (a0 := a0) (a1 := ((36 : Int32) + (F_X8_level τ))) (a2 := (s0 + s1)) S hK hA hP hD hS tl_X0_110 ⟨Nat.le_of_ble_eq_true rfl, Nat.le_of_ble_eq_true rfl⟩ hl.1 (Nat.le_of_ble_eq_true rfl) dX0_find_68 (fun H locs hP hD hS => ?_)
    refine lv_iload hx hb dX0_find_71 (lv_at hl 3 rfl) ?_
    exact hend w5 (F_X8_raiseAt τ a0 ((36 : Int32) + (F_X8_level τ)) (s0 + s1)) H locs 73 ls (Option.some.inj hf) hP hD hS dX0_find_73
  have J_c16 : ∀ (τ : XS) (s1 : Int64) (s2 : Int32) (s3 : Bool) (H : Heap) (locs : List Loc) (ls : Array Slot), F_X0_find_c16 τ a0 a1 a2 s1 s2 s3 = some res → va_P z.1 vwCl (xW z r τ) H → va_D A (xW z r τ) → va_S A s.heap H locs → lv_has ls 7 [(0, .ref (r 10)), (1, .long a0), (4, .int (zB a2))] → W p l e { frames := 4, cells := 0, slots := 0, locals := 110 } s m ([.ref (r 10), .long a0, .int a1, .int (zB a2)] : List Value).toArray below meth c H locs 0 0 Q (F0 m 16 ls [.int (zB s3), .int s2, .long s1, .ref (r 5)]) := by
    intro τ s1 s2 s3 H locs ls hf hP hD hS hl
    unfold F_X0_find_c16 at hf
    refine lv_aload_n hx hb dX0_find_16 rfl (lv_at hl 0 rfl) ?_
    refine fg_X0_state S hK hP tf_X0_13 dX0_find_17 ?_
    refine k_X8_level S hK hP tl_X0_103 ⟨Nat.le_of_ble_eq_true rfl, Nat.le_of_ble_eq_true rfl⟩ hl.1 (Nat.le_of_ble_eq_true rfl) dX0_find_20 ?_
    obtain ⟨v1, e_v1, hf⟩ := Option.bind_eq_some_iff.mp hf
    refine k_X10_find (a0 := s1) (a1 := s2) (a2 := (zB s3)) (a3 := (F_X8_level τ)) (res := v1) (hres := e_v1) S hK hP tl_X0_107 ⟨Nat.le_of_ble_eq_true rfl, Nat.le_of_ble_eq_true rfl⟩ hl.1 (Nat.le_of_ble_eq_true rfl) dX0_find_23 ?_
    refine lv_istore (lv' := [(5, .int v1), (0, .ref (r 10)), (1, .long a0), (4, .int (zB a2))]) hx hb dX0_find_26 hl (by decide) rfl (fun ls hl => ?_)
    refine lv_iload hx hb dX0_find_28 (lv_at hl 0 rfl) ?_
    refine lv_if_ge (tgt := 71) hx hb dX0_find_30 (by decide) (fun c_30 => ?_) (fun c_30 => ?_)
    · rw [if_pos c_30] at hf
      refine lv_iload hx hb dX0_find_71 (lv_at hl 0 rfl) ?_
      exact hend v1 τ H locs 73 ls (Option.some.inj hf) hP hD hS dX0_find_73
    · rw [if_neg c_30] at hf
      refine lv_iconst (v := -1) hx hb dX0_find_33 (by decide) ?_
      refine lv_iload hx hb dX0_find_34 (lv_at hl 0 rfl) ?_
      refine lv_isub hx hb dX0_find_36 ?_
      refine lv_iload hx hb dX0_find_37 (lv_at hl 3 rfl) ?_
      refine gz_eq (tgt := 46) hx hb dX0_find_39 (by decide) (fun c_39 => ?_) (fun c_39 => ?_)
      · rw [if_neg c_39] at hf
        refine lv_bipush (v := 64) hx hb dX0_find_46 (by decide) ?_
        exact J_c48 τ v1 ((-1 : Int32) - v1) (64 : Int32) H locs ls hf hP hD hS (lv_sub hl [1, 2, 0] rfl)
      · rw [if_pos c_39] at hf
        refine lv_iconst (v := 0) hx hb dX0_find_42 (by decide) ?_
        refine lv_goto (tgt := 48) hx hb dX0_find_43 (by decide) ?_
        exact J_c48 τ v1 ((-1 : Int32) - v1) (0 : Int32) H locs ls hf hP hD hS (lv_sub hl [1, 2, 0] rfl)
  unfold F_X0_find at hf
  refine lv_aload_n hx hb dX0_find_0 rfl (lv_at hl 0 rfl) ?_
  refine fg_X0_walk S hK hP tf_X0_17 dX0_find_1 ?_
  refine lv_lload_n hx hb dX0_find_4 rfl (lv_at hl 1 rfl) ?_
  refine lv_iload_n hx hb dX0_find_5 rfl (lv_at hl 2 rfl) ?_
  refine lv_iload hx hb dX0_find_6 (lv_at hl 3 rfl) ?_
  refine gz_eq (tgt := 15) hx hb dX0_find_8 (by decide) (fun c_8 => ?_) (fun c_8 => ?_)
  · rw [if_neg c_8] at hf
    refine lv_iconst (v := 1) hx hb dX0_find_15 (by decide) ?_
    exact J_c16 σ a0 a1 true H locs ls hf hP hD hS (lv_sub hl [0, 1, 3] rfl)
  · rw [if_pos c_8] at hf
    refine lv_iconst (v := 0) hx hb dX0_find_11 (by decide) ?_
    refine lv_goto (tgt := 16) hx hb dX0_find_12 (by decide) ?_
    exact J_c16 σ a0 a1 false H locs ls hf hP hD hS (lv_sub hl [0, 1, 3] rfl)
theorem k_X0_find {p : Program} {l : Launch} {e : Env} {R : Room} {s : State} {m : MethodId} {args : Array Value} {below : List Frame} {meth : Method} {c : Code} {H : Heap} {locs : List Loc} {Q : State → Prop} {cc : ByteArray} {pc : Nat} {ls : Array Slot} {rest : List Value} {own : String} {index nL : Nat} {A : Nat → Prop} {z : Cx} {r : Nat → Nat} {σ : XS} {a0 : Int64} {a1 : Int32} {a2 : Bool} {res : Int32 × XS} (hres : F_X0_find σ a0 a1 a2 = some res) (S : CallFix p m c cc nL s args tbG own) (hK : va_K z.1 vwCl (cxT z) s) (hA : ∀ q, s.heap.size ≤ q → A q) (hP : va_P z.1 vwCl (xW z r σ) H) (hD : va_D A (xW z r σ)) (hS : va_S A s.heap H locs) (hl : Cond.methodLink own index yX0_find ∈ tbG) (hR : 4 + 1 ≤ R.frames ∧ 8 + (7 + 11) + 110 ≤ R.locals) (hsz : ls.size = nL) (hcat : (rest.map fun v => v.category).sum ≤ 8) (hdg : decode cc pc = .ok (.invokevirtual index, 3)) (kk : ∀ (H : Heap) (locs : List Loc), va_P z.1 vwCl (xW z r res.2) H → va_D A (xW z r res.2) → va_S A s.heap H locs → W p l e R s m args below meth c H locs 0 0 Q (F0 m (pc + 3) ls (.int res.1 :: rest))) : W p l e R s m args below meth c H locs 0 0 Q (F0 m pc ls (.int (zB a2) :: .int a1 :: .long a0 :: .ref (r 10) :: rest)) :=
  km (As := [.long a0, .int a1, .int (zB a2)]) (ov := some (.int res.1)) (w' := xW z r res.2) (q0 := 10) (ci := 0) S hK hA hP hD hS (c_X0_find l z r σ a0 a1 a2 H.size _ hres) ⟨tb_cB 3 S.2.2.2.2 tc_X0_find ti_X0 hl rfl rfl (by decide +kernel) hR, S.2.2.2.2 _ tm_X0_find, S.2.2.2.2 _ te_X0_find⟩ rfl rfl rfl rfl hsz rfl hcat hdg kk

theorem dX4_write_0 : decode cX4_write 0 = .ok (.aload_n 0, 1) := by decide +kernel
theorem dX4_write_1 : decode cX4_write 1 = .ok (.lload_n 1, 1) := by decide +kernel
theorem dX4_write_2 : decode cX4_write 2 = .ok (.iload_n 3, 1) := by decide +kernel
theorem dX4_write_3 : decode cX4_write 3 = .ok (.invokevirtual 14, 3) := by decide +kernel
theorem dX4_write_6 : decode cX4_write 6 = .ok (.ifCond .ne 4, 3) := by decide +kernel
theorem dX4_write_9 : decode cX4_write 9 = .ok (.return_, 1) := by decide +kernel
theorem dX4_write_10 : decode cX4_write 10 = .ok (.lload_n 1, 1) := by decide +kernel
theorem dX4_write_11 : decode cX4_write 11 = .ok (.iconst 3, 1) := by decide +kernel
theorem dX4_write_12 : decode cX4_write 12 = .ok (.lushr, 1) := by decide +kernel
theorem dX4_write_13 : decode cX4_write 13 = .ok (.l2i, 1) := by decide +kernel
theorem dX4_write_14 : decode cX4_write 14 = .ok (.istore 6, 2) := by decide +kernel
theorem dX4_write_16 : decode cX4_write 16 = .ok (.lload_n 1, 1) := by decide +kernel
theorem dX4_write_17 : decode cX4_write 17 = .ok (.ldc2_w 18, 3) := by decide +kernel
theorem dX4_write_20 : decode cX4_write 20 = .ok (.land, 1) := by decide +kernel
theorem dX4_write_21 : decode cX4_write 21 = .ok (.l2i, 1) := by decide +kernel
theorem dX4_write_22 : decode cX4_write 22 = .ok (.bipush 8, 2) := by decide +kernel
theorem dX4_write_24 : decode cX4_write 24 = .ok (.imul, 1) := by decide +kernel
theorem dX4_write_25 : decode cX4_write 25 = .ok (.istore 7, 2) := by decide +kernel
theorem dX4_write_27 : decode cX4_write 27 = .ok (.iload_n 3, 1) := by decide +kernel
theorem dX4_write_28 : decode cX4_write 28 = .ok (.bipush 8, 2) := by decide +kernel
theorem dX4_write_30 : decode cX4_write 30 = .ok (.imul, 1) := by decide +kernel
theorem dX4_write_31 : decode cX4_write 31 = .ok (.invokestatic 20, 3) := by decide +kernel
theorem dX4_write_34 : decode cX4_write 34 = .ok (.iload 7, 2) := by decide +kernel
theorem dX4_write_36 : decode cX4_write 36 = .ok (.lshl, 1) := by decide +kernel
theorem dX4_write_37 : decode cX4_write 37 = .ok (.ldc2_w 26, 3) := by decide +kernel
theorem dX4_write_40 : decode cX4_write 40 = .ok (.lxor, 1) := by decide +kernel
theorem dX4_write_41 : decode cX4_write 41 = .ok (.lstore 8, 2) := by decide +kernel
theorem dX4_write_43 : decode cX4_write 43 = .ok (.aload_n 0, 1) := by decide +kernel
theorem dX4_write_44 : decode cX4_write 44 = .ok (.getfield 9, 3) := by decide +kernel
theorem dX4_write_47 : decode cX4_write 47 = .ok (.iload 6, 2) := by decide +kernel
theorem dX4_write_49 : decode cX4_write 49 = .ok (.aload_n 0, 1) := by decide +kernel
theorem dX4_write_50 : decode cX4_write 50 = .ok (.getfield 9, 3) := by decide +kernel
theorem dX4_write_53 : decode cX4_write 53 = .ok (.iload 6, 2) := by decide +kernel
theorem dX4_write_55 : decode cX4_write 55 = .ok (.laload, 1) := by decide +kernel
theorem dX4_write_56 : decode cX4_write 56 = .ok (.lload 8, 2) := by decide +kernel
theorem dX4_write_58 : decode cX4_write 58 = .ok (.land, 1) := by decide +kernel
theorem dX4_write_59 : decode cX4_write 59 = .ok (.lload 4, 2) := by decide +kernel
theorem dX4_write_61 : decode cX4_write 61 = .ok (.iload_n 3, 1) := by decide +kernel
theorem dX4_write_62 : decode cX4_write 62 = .ok (.bipush 8, 2) := by decide +kernel
theorem dX4_write_64 : decode cX4_write 64 = .ok (.imul, 1) := by decide +kernel
theorem dX4_write_65 : decode cX4_write 65 = .ok (.invokestatic 20, 3) := by decide +kernel
theorem dX4_write_68 : decode cX4_write 68 = .ok (.land, 1) := by decide +kernel
theorem dX4_write_69 : decode cX4_write 69 = .ok (.iload 7, 2) := by decide +kernel
theorem dX4_write_71 : decode cX4_write 71 = .ok (.lshl, 1) := by decide +kernel
theorem dX4_write_72 : decode cX4_write 72 = .ok (.lor, 1) := by decide +kernel
theorem dX4_write_73 : decode cX4_write 73 = .ok (.lastore, 1) := by decide +kernel
theorem dX4_write_74 : decode cX4_write 74 = .ok (.return_, 1) := by decide +kernel
def F_X4_write_c27 (τ : XS) (a0 : Int64) (a1 : Int32) (a2 : Int64) (w6 : Int32) (w7 : Int32) : Option (XS) := (if (w6 < 0 ∨ 8192 ≤ w6.toNatClampNeg) then none else (if (w6 < 0 ∨ 8192 ≤ w6.toNatClampNeg) then none else some ((xuC τ (vp_updL (xC τ) w6.toNatClampNeg (((xC τ w6.toNatClampNeg) &&& ((j_lshl (F_X1_ones (a1 * (8 : Int32))) w7) ^^^ (-1 : Int64))) ||| (j_lshl (a2 &&& (F_X1_ones (a1 * (8 : Int32)))) w7)))))))
def F_X4_write_c16 (τ : XS) (a0 : Int64) (a1 : Int32) (a2 : Int64) (w6 : Int32) : Option (XS) := (F_X4_write_c27 τ a0 a1 a2 w6 ((a0 &&& (7 : Int64)).toInt32 * (8 : Int32)))
def F_X4_write (σ : XS) (a0 : Int64) (a1 : Int32) (a2 : Int64) : Option (XS) := (if (F_X4_holds σ a0 a1) = true then (F_X4_write_c16 σ a0 a1 a2 (j_lushr a0 (3 : Int32)).toInt32) else some (σ))
set_option maxHeartbeats 4000000 in
set_option maxRecDepth 100000 in
theorem c_X4_write (l : Launch) (z : Cx) (r : Nat → Nat) (σ : XS) (a0 : Int64) (a1 : Int32) (a2 : Int64) (sz : Nat) (res : XS) (hf : F_X4_write σ a0 a1 a2 = some res) : Met l yX4_write (wsC yX4_write cX4_write 10 none) { frames := 1, cells := 0, slots := 0, locals := 23 } (mPc z (xW z r σ) sz [.ref (r 1), .long a0, .int a1, .long a2]) (gM z (va_A (xW z r σ) sz) none (xW z r res)) 0 0 (va_A (xW z r σ) sz) := by
  refine mk_m_v (own := RX4) (wf := xW z r) (by decide) rfl sz _ (Nat.le_of_ble_eq_true rfl) (fun p e s m below meth c A H locs Q ls S hK hA hP hD hS hl hend => ?_)
  have hx := S.1
  have hb := S.2.1
  have hown := S.2.2.2.1
  have hts := S.2.2.2.2
  have hl : lv_has ls 10 [(0, .ref (r 1)), (1, .long a0), (3, .int a1), (4, .long a2)] := hl
  have J_c27 : ∀ (τ : XS) (w6 : Int32) (w7 : Int32) (H : Heap) (locs : List Loc) (ls : Array Slot), F_X4_write_c27 τ a0 a1 a2 w6 w7 = some res → va_P z.1 vwCl (xW z r τ) H → va_D A (xW z r τ) → va_S A s.heap H locs → lv_has ls 10 [(0, .ref (r 1)), (3, .int a1), (4, .long a2), (6, .int w6), (7, .int w7)] → W p l e { frames := 1, cells := 0, slots := 0, locals := 23 } s m ([.ref (r 1), .long a0, .int a1, .long a2] : List Value).toArray below meth c H locs 0 0 Q (F0 m 27 ls []) := by
    intro τ w6 w7 H locs ls hf hP hD hS hl
    unfold F_X4_write_c27 at hf
    refine lv_iload_n hx hb dX4_write_27 rfl (lv_at hl 1 rfl) ?_
    refine lv_bipush (v := 8) hx hb dX4_write_28 (by decide) ?_
    refine lv_imul hx hb dX4_write_30 ?_
    refine k_X1_ones (a0 := (a1 * (8 : Int32))) S tl_X4_20 ⟨Nat.le_of_ble_eq_true rfl, Nat.le_of_ble_eq_true rfl⟩ hl.1 (Nat.le_of_ble_eq_true rfl) dX4_write_31 ?_
    refine lv_iload hx hb dX4_write_34 (lv_at hl 4 rfl) ?_
    refine lv_lshl (v := (j_lshl (F_X1_ones (a1 * (8 : Int32))) w7)) hx hb dX4_write_36 rfl ?_
    refine lv_ldc2 (v := -1) hx hb hown (hts _ tk_X4_26) dX4_write_37 ?_
    refine lv_lxor hx hb dX4_write_40 ?_
    refine lv_lstore (lv' := [(8, .long ((j_lshl (F_X1_ones (a1 * (8 : Int32))) w7) ^^^ (-1 : Int64))), (0, .ref (r 1)), (3, .int a1), (4, .long a2), (6, .int w6), (7, .int w7)]) hx hb dX4_write_41 hl (by decide) rfl (fun ls hl => ?_)
    refine lv_aload_n hx hb dX4_write_43 rfl (lv_at hl 1 rfl) ?_
    refine fg_X4_cells S hK hP tf_X4_9 dX4_write_44 ?_
    refine lv_iload hx hb dX4_write_47 (lv_at hl 4 rfl) ?_
    refine lv_aload_n hx hb dX4_write_49 rfl (lv_at hl 1 rfl) ?_
    refine fg_X4_cells S hK hP tf_X4_9 dX4_write_50 ?_
    refine lv_iload hx hb dX4_write_53 (lv_at hl 4 rfl) ?_
    by_cases c_55 : (w6 < 0 ∨ 8192 ≤ w6.toNatClampNeg)
    · rw [if_pos c_55] at hf
      cases hf
    rw [if_neg c_55] at hf
    refine al_xC S hK hP c_55 dX4_write_55 ?_
    refine lv_lload hx hb dX4_write_56 (lv_at hl 0 rfl) ?_
    refine lv_land hx hb dX4_write_58 ?_
    refine lv_lload hx hb dX4_write_59 (lv_at hl 3 rfl) ?_
    refine lv_iload_n hx hb dX4_write_61 rfl (lv_at hl 2 rfl) ?_
    refine lv_bipush (v := 8) hx hb dX4_write_62 (by decide) ?_
    refine lv_imul hx hb dX4_write_64 ?_
    refine k_X1_ones (a0 := (a1 * (8 : Int32))) S tl_X4_20 ⟨Nat.le_of_ble_eq_true rfl, Nat.le_of_ble_eq_true rfl⟩ hl.1 (Nat.le_of_ble_eq_true rfl) dX4_write_65 ?_
    refine lv_land hx hb dX4_write_68 ?_
    refine lv_iload hx hb dX4_write_69 (lv_at hl 5 rfl) ?_
    refine lv_lshl (v := (j_lshl (a2 &&& (F_X1_ones (a1 * (8 : Int32)))) w7)) hx hb dX4_write_71 rfl ?_
    refine lv_lor hx hb dX4_write_72 ?_
    by_cases c_73 : (w6 < 0 ∨ 8192 ≤ w6.toNatClampNeg)
    · rw [if_pos c_73] at hf
      cases hf
    rw [if_neg c_73] at hf
    refine ar_xC (x := (((xC τ w6.toNatClampNeg) &&& ((j_lshl (F_X1_ones (a1 * (8 : Int32))) w7) ^^^ (-1 : Int64))) ||| (j_lshl (a2 &&& (F_X1_ones (a1 * (8 : Int32)))) w7))) S hK hP hD hS c_73 dX4_write_73 (fun H locs hP hD hS => ?_)
    exact hend (xuC τ (vp_updL (xC τ) w6.toNatClampNeg (((xC τ w6.toNatClampNeg) &&& ((j_lshl (F_X1_ones (a1 * (8 : Int32))) w7) ^^^ (-1 : Int64))) ||| (j_lshl (a2 &&& (F_X1_ones (a1 * (8 : Int32)))) w7)))) H locs 74 ls (Option.some.inj hf) hP hD hS dX4_write_74
  have J_c16 : ∀ (τ : XS) (w6 : Int32) (H : Heap) (locs : List Loc) (ls : Array Slot), F_X4_write_c16 τ a0 a1 a2 w6 = some res → va_P z.1 vwCl (xW z r τ) H → va_D A (xW z r τ) → va_S A s.heap H locs → lv_has ls 10 [(0, .ref (r 1)), (1, .long a0), (3, .int a1), (4, .long a2), (6, .int w6)] → W p l e { frames := 1, cells := 0, slots := 0, locals := 23 } s m ([.ref (r 1), .long a0, .int a1, .long a2] : List Value).toArray below meth c H locs 0 0 Q (F0 m 16 ls []) := by
    intro τ w6 H locs ls hf hP hD hS hl
    unfold F_X4_write_c16 at hf
    refine lv_lload_n hx hb dX4_write_16 rfl (lv_at hl 1 rfl) ?_
    refine lv_ldc2 (v := 7) hx hb hown (hts _ tk_X4_18) dX4_write_17 ?_
    refine lv_land hx hb dX4_write_20 ?_
    refine lv_l2i hx hb dX4_write_21 rfl ?_
    refine lv_bipush (v := 8) hx hb dX4_write_22 (by decide) ?_
    refine lv_imul hx hb dX4_write_24 ?_
    refine lv_istore (lv' := [(7, .int ((a0 &&& (7 : Int64)).toInt32 * (8 : Int32))), (0, .ref (r 1)), (1, .long a0), (3, .int a1), (4, .long a2), (6, .int w6)]) hx hb dX4_write_25 hl (by decide) rfl (fun ls hl => ?_)
    exact J_c27 τ w6 ((a0 &&& (7 : Int64)).toInt32 * (8 : Int32)) H locs ls hf hP hD hS (lv_sub hl [1, 3, 4, 5, 0] rfl)
  unfold F_X4_write at hf
  refine lv_aload_n hx hb dX4_write_0 rfl (lv_at hl 0 rfl) ?_
  refine lv_lload_n hx hb dX4_write_1 rfl (lv_at hl 1 rfl) ?_
  refine lv_iload_n hx hb dX4_write_2 rfl (lv_at hl 2 rfl) ?_
  refine k_X4_holds (a0 := a0) (a1 := a1) S hK hP tl_X4_14 ⟨Nat.le_of_ble_eq_true rfl, Nat.le_of_ble_eq_true rfl⟩ hl.1 (Nat.le_of_ble_eq_true rfl) dX4_write_3 ?_
  refine gz_ne (tgt := 10) hx hb dX4_write_6 (by decide) (fun c_6 => ?_) (fun c_6 => ?_)
  · rw [if_pos c_6] at hf
    refine lv_lload_n hx hb dX4_write_10 rfl (lv_at hl 1 rfl) ?_
    refine lv_iconst (v := 3) hx hb dX4_write_11 (by decide) ?_
    refine lv_lushr (v := (j_lushr a0 (3 : Int32))) hx hb dX4_write_12 rfl ?_
    refine lv_l2i hx hb dX4_write_13 rfl ?_
    refine lv_istore (lv' := [(6, .int (j_lushr a0 (3 : Int32)).toInt32), (0, .ref (r 1)), (1, .long a0), (3, .int a1), (4, .long a2)]) hx hb dX4_write_14 hl (by decide) rfl (fun ls hl => ?_)
    exact J_c16 σ (j_lushr a0 (3 : Int32)).toInt32 H locs ls hf hP hD hS (lv_sub hl [1, 2, 3, 4, 0] rfl)
  · rw [if_neg c_6] at hf
    exact hend σ H locs 9 ls (Option.some.inj hf) hP hD hS dX4_write_9
theorem k_X4_write {p : Program} {l : Launch} {e : Env} {R : Room} {s : State} {m : MethodId} {args : Array Value} {below : List Frame} {meth : Method} {c : Code} {H : Heap} {locs : List Loc} {Q : State → Prop} {cc : ByteArray} {pc : Nat} {ls : Array Slot} {rest : List Value} {own : String} {index nL : Nat} {A : Nat → Prop} {z : Cx} {r : Nat → Nat} {σ : XS} {a0 : Int64} {a1 : Int32} {a2 : Int64} {res : XS} (hres : F_X4_write σ a0 a1 a2 = some res) (S : CallFix p m c cc nL s args tbG own) (hK : va_K z.1 vwCl (cxT z) s) (hA : ∀ q, s.heap.size ≤ q → A q) (hP : va_P z.1 vwCl (xW z r σ) H) (hD : va_D A (xW z r σ)) (hS : va_S A s.heap H locs) (hl : Cond.methodLink own index yX4_write ∈ tbG) (hR : 1 + 1 ≤ R.frames ∧ 8 + (10 + 11) + 23 ≤ R.locals) (hsz : ls.size = nL) (hcat : (rest.map fun v => v.category).sum ≤ 8) (hdg : decode cc pc = .ok (.invokevirtual index, 3)) (kk : ∀ (H : Heap) (locs : List Loc), va_P z.1 vwCl (xW z r res) H → va_D A (xW z r res) → va_S A s.heap H locs → W p l e R s m args below meth c H locs 0 0 Q (F0 m (pc + 3) ls (rest))) : W p l e R s m args below meth c H locs 0 0 Q (F0 m pc ls (.long a2 :: .int a1 :: .long a0 :: .ref (r 1) :: rest)) :=
  km (As := [.long a0, .int a1, .long a2]) (ov := none) (w' := xW z r res) (q0 := 1) (ci := 3) S hK hA hP hD hS (c_X4_write l z r σ a0 a1 a2 H.size _ hres) ⟨tb_cB 3 S.2.2.2.2 tc_X4_write ti_X4 hl rfl rfl (by decide +kernel) hR, S.2.2.2.2 _ tm_X4_write, S.2.2.2.2 _ te_X4_write⟩ rfl rfl rfl rfl hsz rfl hcat hdg kk

theorem dX8_putPart_0 : decode cX8_putPart 0 = .ok (.iload_n 1, 1) := by decide +kernel
theorem dX8_putPart_1 : decode cX8_putPart 1 = .ok (.ifCond .lt 9, 3) := by decide +kernel
theorem dX8_putPart_4 : decode cX8_putPart 4 = .ok (.iload_n 1, 1) := by decide +kernel
theorem dX8_putPart_5 : decode cX8_putPart 5 = .ok (.bipush 46, 2) := by decide +kernel
theorem dX8_putPart_7 : decode cX8_putPart 7 = .ok (.if_icmp .lt 5, 3) := by decide +kernel
theorem dX8_putPart_10 : decode cX8_putPart 10 = .ok (.iconst 0, 1) := by decide +kernel
theorem dX8_putPart_11 : decode cX8_putPart 11 = .ok (.ireturn, 1) := by decide +kernel
theorem dX8_putPart_12 : decode cX8_putPart 12 = .ok (.iload_n 1, 1) := by decide +kernel
theorem dX8_putPart_13 : decode cX8_putPart 13 = .ok (.bipush 42, 2) := by decide +kernel
theorem dX8_putPart_15 : decode cX8_putPart 15 = .ok (.if_icmp .ne 17, 3) := by decide +kernel
theorem dX8_putPart_18 : decode cX8_putPart 18 = .ok (.aload_n 0, 1) := by decide +kernel
theorem dX8_putPart_19 : decode cX8_putPart 19 = .ok (.getfield 9, 3) := by decide +kernel
theorem dX8_putPart_22 : decode cX8_putPart 22 = .ok (.iload_n 1, 1) := by decide +kernel
theorem dX8_putPart_23 : decode cX8_putPart 23 = .ok (.lload_n 2, 1) := by decide +kernel
theorem dX8_putPart_24 : decode cX8_putPart 24 = .ok (.ldc2_w 13, 3) := by decide +kernel
theorem dX8_putPart_27 : decode cX8_putPart 27 = .ok (.land, 1) := by decide +kernel
theorem dX8_putPart_28 : decode cX8_putPart 28 = .ok (.lastore, 1) := by decide +kernel
theorem dX8_putPart_29 : decode cX8_putPart 29 = .ok (.goto 28, 3) := by decide +kernel
theorem dX8_putPart_32 : decode cX8_putPart 32 = .ok (.iload_n 1, 1) := by decide +kernel
theorem dX8_putPart_33 : decode cX8_putPart 33 = .ok (.bipush 42, 2) := by decide +kernel
theorem dX8_putPart_35 : decode cX8_putPart 35 = .ok (.if_icmp .le 15, 3) := by decide +kernel
theorem dX8_putPart_38 : decode cX8_putPart 38 = .ok (.aload_n 0, 1) := by decide +kernel
theorem dX8_putPart_39 : decode cX8_putPart 39 = .ok (.getfield 9, 3) := by decide +kernel
theorem dX8_putPart_42 : decode cX8_putPart 42 = .ok (.iload_n 1, 1) := by decide +kernel
theorem dX8_putPart_43 : decode cX8_putPart 43 = .ok (.lload_n 2, 1) := by decide +kernel
theorem dX8_putPart_44 : decode cX8_putPart 44 = .ok (.lconst 1, 1) := by decide +kernel
theorem dX8_putPart_45 : decode cX8_putPart 45 = .ok (.land, 1) := by decide +kernel
theorem dX8_putPart_46 : decode cX8_putPart 46 = .ok (.lastore, 1) := by decide +kernel
theorem dX8_putPart_47 : decode cX8_putPart 47 = .ok (.goto 10, 3) := by decide +kernel
theorem dX8_putPart_50 : decode cX8_putPart 50 = .ok (.aload_n 0, 1) := by decide +kernel
theorem dX8_putPart_51 : decode cX8_putPart 51 = .ok (.getfield 9, 3) := by decide +kernel
theorem dX8_putPart_54 : decode cX8_putPart 54 = .ok (.iload_n 1, 1) := by decide +kernel
theorem dX8_putPart_55 : decode cX8_putPart 55 = .ok (.lload_n 2, 1) := by decide +kernel
theorem dX8_putPart_56 : decode cX8_putPart 56 = .ok (.lastore, 1) := by decide +kernel
theorem dX8_putPart_57 : decode cX8_putPart 57 = .ok (.iconst 1, 1) := by decide +kernel
theorem dX8_putPart_58 : decode cX8_putPart 58 = .ok (.ireturn, 1) := by decide +kernel
def F_X8_putPart (σ : XS) (a0 : Int32) (a1 : Int64) : Bool × XS := (if a0 < 0 then (false, σ) else (if a0 < (46 : Int32) then (if a0 = (42 : Int32) then (true, (xuP σ (vp_updL (xP σ) a0.toNatClampNeg (a1 &&& (15 : Int64))))) else (if a0 ≤ (42 : Int32) then (true, (xuP σ (vp_updL (xP σ) a0.toNatClampNeg a1))) else (true, (xuP σ (vp_updL (xP σ) a0.toNatClampNeg (a1 &&& (1 : Int64))))))) else (false, σ)))
set_option maxHeartbeats 4000000 in
set_option maxRecDepth 100000 in
theorem c_X8_putPart (l : Launch) (z : Cx) (r : Nat → Nat) (σ : XS) (a0 : Int32) (a1 : Int64) (sz : Nat) (res : Bool × XS) (hf : F_X8_putPart σ a0 a1 = res) : Met l yX8_putPart (wsC yX8_putPart cX8_putPart 4 (some .boolean)) { frames := 0, cells := 0, slots := 0, locals := 0 } (mPc z (xW z r σ) sz [.ref (r 3), .int a0, .long a1]) (gM z (va_A (xW z r σ) sz) (some (.int (zB res.1))) (xW z r res.2)) 0 0 (va_A (xW z r σ) sz) := by
  refine mk_m_z (own := RX8) (wf := xW z r) (by decide) rfl sz _ (Nat.le_of_ble_eq_true rfl) (fun p e s m below meth c A H locs Q ls S hK hA hP hD hS hl hend => ?_)
  have hx := S.1
  have hb := S.2.1
  have hown := S.2.2.2.1
  have hts := S.2.2.2.2
  have hl : lv_has ls 4 [(0, .ref (r 3)), (1, .int a0), (2, .long a1)] := hl
  unfold F_X8_putPart at hf
  refine lv_iload_n hx hb dX8_putPart_0 rfl (lv_at hl 1 rfl) ?_
  refine lv_if_lt (tgt := 10) hx hb dX8_putPart_1 (by decide) (fun c_1 => ?_) (fun c_1 => ?_)
  · rw [if_pos c_1] at hf
    refine lv_iconst (v := 0) hx hb dX8_putPart_10 (by decide) ?_
    exact hend false σ H locs 11 ls hf hP hD hS dX8_putPart_11
  · rw [if_neg c_1] at hf
    refine lv_iload_n hx hb dX8_putPart_4 rfl (lv_at hl 1 rfl) ?_
    refine lv_bipush (v := 46) hx hb dX8_putPart_5 (by decide) ?_
    refine lv_icmp_lt (tgt := 12) hx hb dX8_putPart_7 (by decide) (fun c_7 => ?_) (fun c_7 => ?_)
    · rw [if_pos c_7] at hf
      refine lv_iload_n hx hb dX8_putPart_12 rfl (lv_at hl 1 rfl) ?_
      refine lv_bipush (v := 42) hx hb dX8_putPart_13 (by decide) ?_
      refine lv_icmp_ne (tgt := 32) hx hb dX8_putPart_15 (by decide) (fun c_15 => ?_) (fun c_15 => ?_)
      · rw [if_neg c_15] at hf
        refine lv_iload_n hx hb dX8_putPart_32 rfl (lv_at hl 1 rfl) ?_
        refine lv_bipush (v := 42) hx hb dX8_putPart_33 (by decide) ?_
        refine lv_icmp_le (tgt := 50) hx hb dX8_putPart_35 (by decide) (fun c_35 => ?_) (fun c_35 => ?_)
        · rw [if_pos c_35] at hf
          refine lv_aload_n hx hb dX8_putPart_50 rfl (lv_at hl 0 rfl) ?_
          refine fg_X8_parts S hK hP tf_X8_9 dX8_putPart_51 ?_
          refine lv_iload_n hx hb dX8_putPart_54 rfl (lv_at hl 1 rfl) ?_
          refine lv_lload_n hx hb dX8_putPart_55 rfl (lv_at hl 2 rfl) ?_
          refine ar_xP (x := a1) S hK hP hD hS (vin_lt (N := 46) rfl c_1 c_7) dX8_putPart_56 (fun H locs hP hD hS => ?_)
          refine lv_iconst (v := 1) hx hb dX8_putPart_57 (by decide) ?_
          exact hend true (xuP σ (vp_updL (xP σ) a0.toNatClampNeg a1)) H locs 58 ls hf hP hD hS dX8_putPart_58
        · rw [if_neg c_35] at hf
          refine lv_aload_n hx hb dX8_putPart_38 rfl (lv_at hl 0 rfl) ?_
          refine fg_X8_parts S hK hP tf_X8_9 dX8_putPart_39 ?_
          refine lv_iload_n hx hb dX8_putPart_42 rfl (lv_at hl 1 rfl) ?_
          refine lv_lload_n hx hb dX8_putPart_43 rfl (lv_at hl 2 rfl) ?_
          refine lv_lconst (v := 1) hx hb dX8_putPart_44 (by decide) ?_
          refine lv_land hx hb dX8_putPart_45 ?_
          refine ar_xP (x := (a1 &&& (1 : Int64))) S hK hP hD hS (vin_lt (N := 46) rfl c_1 c_7) dX8_putPart_46 (fun H locs hP hD hS => ?_)
          refine lv_goto (tgt := 57) hx hb dX8_putPart_47 (by decide) ?_
          refine lv_iconst (v := 1) hx hb dX8_putPart_57 (by decide) ?_
          exact hend true (xuP σ (vp_updL (xP σ) a0.toNatClampNeg (a1 &&& (1 : Int64)))) H locs 58 ls hf hP hD hS dX8_putPart_58
      · rw [if_pos c_15] at hf
        refine lv_aload_n hx hb dX8_putPart_18 rfl (lv_at hl 0 rfl) ?_
        refine fg_X8_parts S hK hP tf_X8_9 dX8_putPart_19 ?_
        refine lv_iload_n hx hb dX8_putPart_22 rfl (lv_at hl 1 rfl) ?_
        refine lv_lload_n hx hb dX8_putPart_23 rfl (lv_at hl 2 rfl) ?_
        refine lv_ldc2 (v := 15) hx hb hown (hts _ tk_X8_13) dX8_putPart_24 ?_
        refine lv_land hx hb dX8_putPart_27 ?_
        refine ar_xP (x := (a1 &&& (15 : Int64))) S hK hP hD hS (vin_lt (N := 46) rfl c_1 c_7) dX8_putPart_28 (fun H locs hP hD hS => ?_)
        refine lv_goto (tgt := 57) hx hb dX8_putPart_29 (by decide) ?_
        refine lv_iconst (v := 1) hx hb dX8_putPart_57 (by decide) ?_
        exact hend true (xuP σ (vp_updL (xP σ) a0.toNatClampNeg (a1 &&& (15 : Int64)))) H locs 58 ls hf hP hD hS dX8_putPart_58
    · rw [if_neg c_7] at hf
      refine lv_iconst (v := 0) hx hb dX8_putPart_10 (by decide) ?_
      exact hend false σ H locs 11 ls hf hP hD hS dX8_putPart_11
theorem k_X8_putPart {p : Program} {l : Launch} {e : Env} {R : Room} {s : State} {m : MethodId} {args : Array Value} {below : List Frame} {meth : Method} {c : Code} {H : Heap} {locs : List Loc} {Q : State → Prop} {cc : ByteArray} {pc : Nat} {ls : Array Slot} {rest : List Value} {own : String} {index nL : Nat} {A : Nat → Prop} {z : Cx} {r : Nat → Nat} {σ : XS} {a0 : Int32} {a1 : Int64} (S : CallFix p m c cc nL s args tbG own) (hK : va_K z.1 vwCl (cxT z) s) (hA : ∀ q, s.heap.size ≤ q → A q) (hP : va_P z.1 vwCl (xW z r σ) H) (hD : va_D A (xW z r σ)) (hS : va_S A s.heap H locs) (hl : Cond.methodLink own index yX8_putPart ∈ tbG) (hR : 0 + 1 ≤ R.frames ∧ 8 + (4 + 11) + 0 ≤ R.locals) (hsz : ls.size = nL) (hcat : (rest.map fun v => v.category).sum ≤ 8) (hdg : decode cc pc = .ok (.invokevirtual index, 3)) (kk : ∀ (H : Heap) (locs : List Loc), va_P z.1 vwCl (xW z r (F_X8_putPart σ a0 a1).2) H → va_D A (xW z r (F_X8_putPart σ a0 a1).2) → va_S A s.heap H locs → W p l e R s m args below meth c H locs 0 0 Q (F0 m (pc + 3) ls (.int (zB (F_X8_putPart σ a0 a1).1) :: rest))) : W p l e R s m args below meth c H locs 0 0 Q (F0 m pc ls (.long a1 :: .int a0 :: .ref (r 3) :: rest)) :=
  km (As := [.int a0, .long a1]) (ov := some (.int (zB (F_X8_putPart σ a0 a1).1))) (w' := xW z r (F_X8_putPart σ a0 a1).2) (q0 := 3) (ci := 7) S hK hA hP hD hS (c_X8_putPart l z r σ a0 a1 H.size _ rfl) ⟨tb_cB 2 S.2.2.2.2 tc_X8_putPart ti_X8 hl rfl rfl (by decide +kernel) hR, S.2.2.2.2 _ tm_X8_putPart, S.2.2.2.2 _ te_X8_putPart⟩ rfl rfl rfl rfl hsz rfl hcat hdg kk

theorem dX8_putRegisterOrStack_0 : decode cX8_putRegisterOrStack 0 = .ok (.aload_n 0, 1) := by decide +kernel
theorem dX8_putRegisterOrStack_1 : decode cX8_putRegisterOrStack 1 = .ok (.iload_n 1, 1) := by decide +kernel
theorem dX8_putRegisterOrStack_2 : decode cX8_putRegisterOrStack 2 = .ok (.bipush 31, 2) := by decide +kernel
theorem dX8_putRegisterOrStack_4 : decode cX8_putRegisterOrStack 4 = .ok (.if_icmp .ne 10, 3) := by decide +kernel
theorem dX8_putRegisterOrStack_7 : decode cX8_putRegisterOrStack 7 = .ok (.aload_n 0, 1) := by decide +kernel
theorem dX8_putRegisterOrStack_8 : decode cX8_putRegisterOrStack 8 = .ok (.invokevirtual 23, 3) := by decide +kernel
theorem dX8_putRegisterOrStack_11 : decode cX8_putRegisterOrStack 11 = .ok (.goto 4, 3) := by decide +kernel
theorem dX8_putRegisterOrStack_14 : decode cX8_putRegisterOrStack 14 = .ok (.iload_n 1, 1) := by decide +kernel
theorem dX8_putRegisterOrStack_15 : decode cX8_putRegisterOrStack 15 = .ok (.lload_n 2, 1) := by decide +kernel
theorem dX8_putRegisterOrStack_16 : decode cX8_putRegisterOrStack 16 = .ok (.invokevirtual 19, 3) := by decide +kernel
theorem dX8_putRegisterOrStack_19 : decode cX8_putRegisterOrStack 19 = .ok (.pop, 1) := by decide +kernel
theorem dX8_putRegisterOrStack_20 : decode cX8_putRegisterOrStack 20 = .ok (.return_, 1) := by decide +kernel
def F_X8_putRegisterOrStack_c15 (τ : XS) (a0 : Int32) (a1 : Int64) (s1 : Int32) : XS := (F_X8_putPart τ s1 a1).2
def F_X8_putRegisterOrStack (σ : XS) (a0 : Int32) (a1 : Int64) : XS := (if a0 = (31 : Int32) then (F_X8_putRegisterOrStack_c15 σ a0 a1 (F_X8_stack σ)) else (F_X8_putRegisterOrStack_c15 σ a0 a1 a0))
set_option maxHeartbeats 4000000 in
set_option maxRecDepth 100000 in
theorem c_X8_putRegisterOrStack (l : Launch) (z : Cx) (r : Nat → Nat) (σ : XS) (a0 : Int32) (a1 : Int64) (sz : Nat) (res : XS) (hf : F_X8_putRegisterOrStack σ a0 a1 = res) : Met l yX8_putRegisterOrStack (wsC yX8_putRegisterOrStack cX8_putRegisterOrStack 4 none) { frames := 1, cells := 0, slots := 0, locals := 23 } (mPc z (xW z r σ) sz [.ref (r 3), .int a0, .long a1]) (gM z (va_A (xW z r σ) sz) none (xW z r res)) 0 0 (va_A (xW z r σ) sz) := by
  refine mk_m_v (own := RX8) (wf := xW z r) (by decide) rfl sz _ (Nat.le_of_ble_eq_true rfl) (fun p e s m below meth c A H locs Q ls S hK hA hP hD hS hl hend => ?_)
  have hx := S.1
  have hb := S.2.1
  have hown := S.2.2.2.1
  have hts := S.2.2.2.2
  have hl : lv_has ls 4 [(0, .ref (r 3)), (1, .int a0), (2, .long a1)] := hl
  have J_c15 : ∀ (τ : XS) (s1 : Int32) (H : Heap) (locs : List Loc) (ls : Array Slot), F_X8_putRegisterOrStack_c15 τ a0 a1 s1 = res → va_P z.1 vwCl (xW z r τ) H → va_D A (xW z r τ) → va_S A s.heap H locs → lv_has ls 4 [(2, .long a1)] → W p l e { frames := 1, cells := 0, slots := 0, locals := 23 } s m ([.ref (r 3), .int a0, .long a1] : List Value).toArray below meth c H locs 0 0 Q (F0 m 15 ls [.int s1, .ref (r 3)]) := by
    intro τ s1 H locs ls hf hP hD hS hl
    unfold F_X8_putRegisterOrStack_c15 at hf
    refine lv_lload_n hx hb dX8_putRegisterOrStack_15 rfl (lv_at hl 0 rfl) ?_
    refine k_X8_putPart (a0 := s1) (a1 := a1) S hK hA hP hD hS tl_X8_19 ⟨Nat.le_of_ble_eq_true rfl, Nat.le_of_ble_eq_true rfl⟩ hl.1 (Nat.le_of_ble_eq_true rfl) dX8_putRegisterOrStack_16 (fun H locs hP hD hS => ?_)
    refine lv_pop hx hb dX8_putRegisterOrStack_19 rfl ?_
    exact hend (F_X8_putPart τ s1 a1).2 H locs 20 ls hf hP hD hS dX8_putRegisterOrStack_20
  unfold F_X8_putRegisterOrStack at hf
  refine lv_aload_n hx hb dX8_putRegisterOrStack_0 rfl (lv_at hl 0 rfl) ?_
  refine lv_iload_n hx hb dX8_putRegisterOrStack_1 rfl (lv_at hl 1 rfl) ?_
  refine lv_bipush (v := 31) hx hb dX8_putRegisterOrStack_2 (by decide) ?_
  refine lv_icmp_ne (tgt := 14) hx hb dX8_putRegisterOrStack_4 (by decide) (fun c_4 => ?_) (fun c_4 => ?_)
  · rw [if_neg c_4] at hf
    refine lv_iload_n hx hb dX8_putRegisterOrStack_14 rfl (lv_at hl 1 rfl) ?_
    exact J_c15 σ a0 H locs ls hf hP hD hS (lv_sub hl [2] rfl)
  · rw [if_pos c_4] at hf
    refine lv_aload_n hx hb dX8_putRegisterOrStack_7 rfl (lv_at hl 0 rfl) ?_
    refine k_X8_stack S hK hP tl_X8_23 ⟨Nat.le_of_ble_eq_true rfl, Nat.le_of_ble_eq_true rfl⟩ hl.1 (Nat.le_of_ble_eq_true rfl) dX8_putRegisterOrStack_8 ?_
    refine lv_goto (tgt := 15) hx hb dX8_putRegisterOrStack_11 (by decide) ?_
    exact J_c15 σ (F_X8_stack σ) H locs ls hf hP hD hS (lv_sub hl [2] rfl)
theorem k_X8_putRegisterOrStack {p : Program} {l : Launch} {e : Env} {R : Room} {s : State} {m : MethodId} {args : Array Value} {below : List Frame} {meth : Method} {c : Code} {H : Heap} {locs : List Loc} {Q : State → Prop} {cc : ByteArray} {pc : Nat} {ls : Array Slot} {rest : List Value} {own : String} {index nL : Nat} {A : Nat → Prop} {z : Cx} {r : Nat → Nat} {σ : XS} {a0 : Int32} {a1 : Int64} (S : CallFix p m c cc nL s args tbG own) (hK : va_K z.1 vwCl (cxT z) s) (hA : ∀ q, s.heap.size ≤ q → A q) (hP : va_P z.1 vwCl (xW z r σ) H) (hD : va_D A (xW z r σ)) (hS : va_S A s.heap H locs) (hl : Cond.methodLink own index yX8_putRegisterOrStack ∈ tbG) (hR : 1 + 1 ≤ R.frames ∧ 8 + (4 + 11) + 23 ≤ R.locals) (hsz : ls.size = nL) (hcat : (rest.map fun v => v.category).sum ≤ 8) (hdg : decode cc pc = .ok (.invokevirtual index, 3)) (kk : ∀ (H : Heap) (locs : List Loc), va_P z.1 vwCl (xW z r (F_X8_putRegisterOrStack σ a0 a1)) H → va_D A (xW z r (F_X8_putRegisterOrStack σ a0 a1)) → va_S A s.heap H locs → W p l e R s m args below meth c H locs 0 0 Q (F0 m (pc + 3) ls (rest))) : W p l e R s m args below meth c H locs 0 0 Q (F0 m pc ls (.long a1 :: .int a0 :: .ref (r 3) :: rest)) :=
  km (As := [.int a0, .long a1]) (ov := none) (w' := xW z r (F_X8_putRegisterOrStack σ a0 a1)) (q0 := 3) (ci := 7) S hK hA hP hD hS (c_X8_putRegisterOrStack l z r σ a0 a1 H.size _ rfl) ⟨tb_cB 2 S.2.2.2.2 tc_X8_putRegisterOrStack ti_X8 hl rfl rfl (by decide +kernel) hR, S.2.2.2.2 _ tm_X8_putRegisterOrStack, S.2.2.2.2 _ te_X8_putRegisterOrStack⟩ rfl rfl rfl rfl hsz rfl hcat hdg kk

theorem dX1_narrow_0 : decode cX1_narrow 0 = .ok (.iload_n 2, 1) := by decide +kernel
theorem dX1_narrow_1 : decode cX1_narrow 1 = .ok (.ifCond .eq 7, 3) := by decide +kernel
theorem dX1_narrow_4 : decode cX1_narrow 4 = .ok (.lload_n 0, 1) := by decide +kernel
theorem dX1_narrow_5 : decode cX1_narrow 5 = .ok (.goto 8, 3) := by decide +kernel
theorem dX1_narrow_8 : decode cX1_narrow 8 = .ok (.lload_n 0, 1) := by decide +kernel
theorem dX1_narrow_9 : decode cX1_narrow 9 = .ok (.ldc2_w 9, 3) := by decide +kernel
theorem dX1_narrow_12 : decode cX1_narrow 12 = .ok (.land, 1) := by decide +kernel
theorem dX1_narrow_13 : decode cX1_narrow 13 = .ok (.lreturn, 1) := by decide +kernel
def F_X1_narrow (a0 : Int64) (a1 : Bool) : Int64 := (if a1 = true then a0 else (a0 &&& (4294967295 : Int64)))
set_option maxHeartbeats 4000000 in
set_option maxRecDepth 100000 in
theorem c_X1_narrow (l : Launch) (a0 : Int64) (a1 : Bool) (res : Int64) (hf : F_X1_narrow a0 a1 = res) : Met l yX1_narrow (wsC yX1_narrow cX1_narrow 3 (some .long)) { frames := 0, cells := 0, slots := 0, locals := 0 } (fun v _ => v = ([.long a0, .int (zB a1)] : List Value).toArray) (gS (some (.long res))) 0 0 (fun _ => False) := by
  refine mk_s_l (own := RX1) (by decide) rfl _ (Nat.le_of_ble_eq_true rfl) (fun p e s m below meth c H locs Q ls S hl hend => ?_)
  have hx := S.1
  have hb := S.2.1
  have hown := S.2.2.2.1
  have hts := S.2.2.2.2
  have hl : lv_has ls 3 [(0, .long a0), (2, .int (zB a1))] := hl
  unfold F_X1_narrow at hf
  refine lv_iload_n hx hb dX1_narrow_0 rfl (lv_at hl 1 rfl) ?_
  refine gz_eq (tgt := 8) hx hb dX1_narrow_1 (by decide) (fun c_1 => ?_) (fun c_1 => ?_)
  · rw [if_neg c_1] at hf
    refine lv_lload_n hx hb dX1_narrow_8 rfl (lv_at hl 0 rfl) ?_
    refine lv_ldc2 (v := 4294967295) hx hb hown (hts _ tk_X1_9) dX1_narrow_9 ?_
    refine lv_land hx hb dX1_narrow_12 ?_
    exact hend (a0 &&& (4294967295 : Int64)) 13 ls hf dX1_narrow_13
  · rw [if_pos c_1] at hf
    refine lv_lload_n hx hb dX1_narrow_4 rfl (lv_at hl 0 rfl) ?_
    refine lv_goto (tgt := 13) hx hb dX1_narrow_5 (by decide) ?_
    exact hend a0 13 ls hf dX1_narrow_13
theorem k_X1_narrow {p : Program} {l : Launch} {e : Env} {R : Room} {s : State} {m : MethodId} {args : Array Value} {below : List Frame} {meth : Method} {c : Code} {H : Heap} {locs : List Loc} {Q : State → Prop} {cc : ByteArray} {pc : Nat} {ls : Array Slot} {rest : List Value} {own : String} {index nL : Nat} {a0 : Int64} {a1 : Bool} (S : CallFix p m c cc nL s args tbG own) (hl : Cond.methodLink own index yX1_narrow ∈ tbG) (hR : 0 + 1 ≤ R.frames ∧ 8 + (3 + 11) + 0 ≤ R.locals) (hsz : ls.size = nL) (hcat : (rest.map fun v => v.category).sum ≤ 8) (hdg : decode cc pc = .ok (.invokestatic index, 3)) (kk : W p l e R s m args below meth c H locs 0 0 Q (F0 m (pc + 3) ls (.long (F_X1_narrow a0 a1) :: rest))) : W p l e R s m args below meth c H locs 0 0 Q (F0 m pc ls (.int (zB a1) :: .long a0 :: rest)) :=
  ks (As := [.long a0, .int (zB a1)]) (ov := some (.long (F_X1_narrow a0 a1))) S (c_X1_narrow l a0 a1 _ rfl) ⟨tb_cB 2 S.2.2.2.2 tc_X1_narrow ti_X1 hl rfl rfl (by decide +kernel) hR, S.2.2.2.2 _ ts_X1_narrow⟩ rfl hsz rfl hcat hdg kk

theorem dX0_extended_0 : decode cX0_extended 0 = .ok (.iload_n 3, 1) := by decide +kernel
theorem dX0_extended_1 : decode cX0_extended 1 = .ok (.iconst 1, 1) := by decide +kernel
theorem dX0_extended_2 : decode cX0_extended 2 = .ok (.if_icmp .ne 5, 3) := by decide +kernel
theorem dX0_extended_5 : decode cX0_extended 5 = .ok (.lload_n 0, 1) := by decide +kernel
theorem dX0_extended_6 : decode cX0_extended 6 = .ok (.lreturn, 1) := by decide +kernel
theorem dX0_extended_7 : decode cX0_extended 7 = .ok (.bipush 64, 2) := by decide +kernel
theorem dX0_extended_9 : decode cX0_extended 9 = .ok (.bipush 8, 2) := by decide +kernel
theorem dX0_extended_11 : decode cX0_extended 11 = .ok (.iload_n 2, 1) := by decide +kernel
theorem dX0_extended_12 : decode cX0_extended 12 = .ok (.imul, 1) := by decide +kernel
theorem dX0_extended_13 : decode cX0_extended 13 = .ok (.isub, 1) := by decide +kernel
theorem dX0_extended_14 : decode cX0_extended 14 = .ok (.istore 4, 2) := by decide +kernel
theorem dX0_extended_16 : decode cX0_extended 16 = .ok (.lload_n 0, 1) := by decide +kernel
theorem dX0_extended_17 : decode cX0_extended 17 = .ok (.iload 4, 2) := by decide +kernel
theorem dX0_extended_19 : decode cX0_extended 19 = .ok (.lshl, 1) := by decide +kernel
theorem dX0_extended_20 : decode cX0_extended 20 = .ok (.iload 4, 2) := by decide +kernel
theorem dX0_extended_22 : decode cX0_extended 22 = .ok (.lshr, 1) := by decide +kernel
theorem dX0_extended_23 : decode cX0_extended 23 = .ok (.iload_n 3, 1) := by decide +kernel
theorem dX0_extended_24 : decode cX0_extended 24 = .ok (.iconst 2, 1) := by decide +kernel
theorem dX0_extended_25 : decode cX0_extended 25 = .ok (.if_icmp .ne 7, 3) := by decide +kernel
theorem dX0_extended_28 : decode cX0_extended 28 = .ok (.iconst 1, 1) := by decide +kernel
theorem dX0_extended_29 : decode cX0_extended 29 = .ok (.goto 4, 3) := by decide +kernel
theorem dX0_extended_32 : decode cX0_extended 32 = .ok (.iconst 0, 1) := by decide +kernel
theorem dX0_extended_33 : decode cX0_extended 33 = .ok (.invokestatic 89, 3) := by decide +kernel
theorem dX0_extended_36 : decode cX0_extended 36 = .ok (.lreturn, 1) := by decide +kernel
def F_X0_extended_c33 (a0 : Int64) (a1 : Int32) (a2 : Int32) (s0 : Int64) (s1 : Bool) : Int64 := (F_X1_narrow s0 s1)
def F_X0_extended_c16 (a0 : Int64) (a1 : Int32) (a2 : Int32) (w4 : Int32) : Int64 := (if a2 = (2 : Int32) then (F_X0_extended_c33 a0 a1 a2 (j_lshr (j_lshl a0 w4) w4) true) else (F_X0_extended_c33 a0 a1 a2 (j_lshr (j_lshl a0 w4) w4) false))
def F_X0_extended (a0 : Int64) (a1 : Int32) (a2 : Int32) : Int64 := (if a2 = (1 : Int32) then a0 else (F_X0_extended_c16 a0 a1 a2 ((64 : Int32) - ((8 : Int32) * a1))))
set_option maxHeartbeats 4000000 in
set_option maxRecDepth 100000 in
theorem c_X0_extended (l : Launch) (a0 : Int64) (a1 : Int32) (a2 : Int32) (res : Int64) (hf : F_X0_extended a0 a1 a2 = res) : Met l yX0_extended (wsC yX0_extended cX0_extended 5 (some .long)) { frames := 1, cells := 0, slots := 0, locals := 22 } (fun v _ => v = ([.long a0, .int a1, .int a2] : List Value).toArray) (gS (some (.long res))) 0 0 (fun _ => False) := by
  refine mk_s_l (own := RX0) (by decide) rfl _ (Nat.le_of_ble_eq_true rfl) (fun p e s m below meth c H locs Q ls S hl hend => ?_)
  have hx := S.1
  have hb := S.2.1
  have hown := S.2.2.2.1
  have hts := S.2.2.2.2
  have hl : lv_has ls 5 [(0, .long a0), (2, .int a1), (3, .int a2)] := hl
  have J_c33 : ∀ (s0 : Int64) (s1 : Bool) (ls : Array Slot), F_X0_extended_c33 a0 a1 a2 s0 s1 = res → lv_has ls 5 [] → W p l e { frames := 1, cells := 0, slots := 0, locals := 22 } s m ([.long a0, .int a1, .int a2] : List Value).toArray below meth c H locs 0 0 Q (F0 m 33 ls [.int (zB s1), .long s0]) := by
    intro s0 s1 ls hf hl
    unfold F_X0_extended_c33 at hf
    refine k_X1_narrow (a0 := s0) (a1 := s1) S tl_X0_89 ⟨Nat.le_of_ble_eq_true rfl, Nat.le_of_ble_eq_true rfl⟩ hl.1 (Nat.le_of_ble_eq_true rfl) dX0_extended_33 ?_
    exact hend (F_X1_narrow s0 s1) 36 ls hf dX0_extended_36
  have J_c16 : ∀ (w4 : Int32) (ls : Array Slot), F_X0_extended_c16 a0 a1 a2 w4 = res → lv_has ls 5 [(0, .long a0), (3, .int a2), (4, .int w4)] → W p l e { frames := 1, cells := 0, slots := 0, locals := 22 } s m ([.long a0, .int a1, .int a2] : List Value).toArray below meth c H locs 0 0 Q (F0 m 16 ls []) := by
    intro w4 ls hf hl
    unfold F_X0_extended_c16 at hf
    refine lv_lload_n hx hb dX0_extended_16 rfl (lv_at hl 0 rfl) ?_
    refine lv_iload hx hb dX0_extended_17 (lv_at hl 2 rfl) ?_
    refine lv_lshl (v := (j_lshl a0 w4)) hx hb dX0_extended_19 rfl ?_
    refine lv_iload hx hb dX0_extended_20 (lv_at hl 2 rfl) ?_
    refine lv_lshr (v := (j_lshr (j_lshl a0 w4) w4)) hx hb dX0_extended_22 rfl ?_
    refine lv_iload_n hx hb dX0_extended_23 rfl (lv_at hl 1 rfl) ?_
    refine lv_iconst (v := 2) hx hb dX0_extended_24 (by decide) ?_
    refine lv_icmp_ne (tgt := 32) hx hb dX0_extended_25 (by decide) (fun c_25 => ?_) (fun c_25 => ?_)
    · rw [if_neg c_25] at hf
      refine lv_iconst (v := 0) hx hb dX0_extended_32 (by decide) ?_
      exact J_c33 (j_lshr (j_lshl a0 w4) w4) false ls hf (lv_sub hl [] rfl)
    · rw [if_pos c_25] at hf
      refine lv_iconst (v := 1) hx hb dX0_extended_28 (by decide) ?_
      refine lv_goto (tgt := 33) hx hb dX0_extended_29 (by decide) ?_
      exact J_c33 (j_lshr (j_lshl a0 w4) w4) true ls hf (lv_sub hl [] rfl)
  unfold F_X0_extended at hf
  refine lv_iload_n hx hb dX0_extended_0 rfl (lv_at hl 2 rfl) ?_
  refine lv_iconst (v := 1) hx hb dX0_extended_1 (by decide) ?_
  refine lv_icmp_ne (tgt := 7) hx hb dX0_extended_2 (by decide) (fun c_2 => ?_) (fun c_2 => ?_)
  · rw [if_neg c_2] at hf
    refine lv_bipush (v := 64) hx hb dX0_extended_7 (by decide) ?_
    refine lv_bipush (v := 8) hx hb dX0_extended_9 (by decide) ?_
    refine lv_iload_n hx hb dX0_extended_11 rfl (lv_at hl 1 rfl) ?_
    refine lv_imul hx hb dX0_extended_12 ?_
    refine lv_isub hx hb dX0_extended_13 ?_
    refine lv_istore (lv' := [(4, .int ((64 : Int32) - ((8 : Int32) * a1))), (0, .long a0), (2, .int a1), (3, .int a2)]) hx hb dX0_extended_14 hl (by decide) rfl (fun ls hl => ?_)
    exact J_c16 ((64 : Int32) - ((8 : Int32) * a1)) ls hf (lv_sub hl [1, 3, 0] rfl)
  · rw [if_pos c_2] at hf
    refine lv_lload_n hx hb dX0_extended_5 rfl (lv_at hl 0 rfl) ?_
    exact hend a0 6 ls hf dX0_extended_6
theorem k_X0_extended {p : Program} {l : Launch} {e : Env} {R : Room} {s : State} {m : MethodId} {args : Array Value} {below : List Frame} {meth : Method} {c : Code} {H : Heap} {locs : List Loc} {Q : State → Prop} {cc : ByteArray} {pc : Nat} {ls : Array Slot} {rest : List Value} {own : String} {index nL : Nat} {a0 : Int64} {a1 : Int32} {a2 : Int32} (S : CallFix p m c cc nL s args tbG own) (hl : Cond.methodLink own index yX0_extended ∈ tbG) (hR : 1 + 1 ≤ R.frames ∧ 8 + (5 + 11) + 22 ≤ R.locals) (hsz : ls.size = nL) (hcat : (rest.map fun v => v.category).sum ≤ 8) (hdg : decode cc pc = .ok (.invokestatic index, 3)) (kk : W p l e R s m args below meth c H locs 0 0 Q (F0 m (pc + 3) ls (.long (F_X0_extended a0 a1 a2) :: rest))) : W p l e R s m args below meth c H locs 0 0 Q (F0 m pc ls (.int a2 :: .int a1 :: .long a0 :: rest)) :=
  ks (As := [.long a0, .int a1, .int a2]) (ov := some (.long (F_X0_extended a0 a1 a2))) S (c_X0_extended l a0 a1 a2 _ rfl) ⟨tb_cB 3 S.2.2.2.2 tc_X0_extended ti_X0 hl rfl rfl (by decide +kernel) hR, S.2.2.2.2 _ ts_X0_extended⟩ rfl hsz rfl hcat hdg kk

theorem dX8_putRegister_0 : decode cX8_putRegister 0 = .ok (.iload_n 1, 1) := by decide +kernel
theorem dX8_putRegister_1 : decode cX8_putRegister 1 = .ok (.bipush 31, 2) := by decide +kernel
theorem dX8_putRegister_3 : decode cX8_putRegister 3 = .ok (.if_icmp .eq 10, 3) := by decide +kernel
theorem dX8_putRegister_6 : decode cX8_putRegister 6 = .ok (.aload_n 0, 1) := by decide +kernel
theorem dX8_putRegister_7 : decode cX8_putRegister 7 = .ok (.iload_n 1, 1) := by decide +kernel
theorem dX8_putRegister_8 : decode cX8_putRegister 8 = .ok (.lload_n 2, 1) := by decide +kernel
theorem dX8_putRegister_9 : decode cX8_putRegister 9 = .ok (.invokevirtual 19, 3) := by decide +kernel
theorem dX8_putRegister_12 : decode cX8_putRegister 12 = .ok (.pop, 1) := by decide +kernel
theorem dX8_putRegister_13 : decode cX8_putRegister 13 = .ok (.return_, 1) := by decide +kernel
def F_X8_putRegister (σ : XS) (a0 : Int32) (a1 : Int64) : XS := (if a0 = (31 : Int32) then σ else (F_X8_putPart σ a0 a1).2)
set_option maxHeartbeats 4000000 in
set_option maxRecDepth 100000 in
theorem c_X8_putRegister (l : Launch) (z : Cx) (r : Nat → Nat) (σ : XS) (a0 : Int32) (a1 : Int64) (sz : Nat) (res : XS) (hf : F_X8_putRegister σ a0 a1 = res) : Met l yX8_putRegister (wsC yX8_putRegister cX8_putRegister 4 none) { frames := 1, cells := 0, slots := 0, locals := 23 } (mPc z (xW z r σ) sz [.ref (r 3), .int a0, .long a1]) (gM z (va_A (xW z r σ) sz) none (xW z r res)) 0 0 (va_A (xW z r σ) sz) := by
  refine mk_m_v (own := RX8) (wf := xW z r) (by decide) rfl sz _ (Nat.le_of_ble_eq_true rfl) (fun p e s m below meth c A H locs Q ls S hK hA hP hD hS hl hend => ?_)
  have hx := S.1
  have hb := S.2.1
  have hown := S.2.2.2.1
  have hts := S.2.2.2.2
  have hl : lv_has ls 4 [(0, .ref (r 3)), (1, .int a0), (2, .long a1)] := hl
  unfold F_X8_putRegister at hf
  refine lv_iload_n hx hb dX8_putRegister_0 rfl (lv_at hl 1 rfl) ?_
  refine lv_bipush (v := 31) hx hb dX8_putRegister_1 (by decide) ?_
  refine lv_icmp_eq (tgt := 13) hx hb dX8_putRegister_3 (by decide) (fun c_3 => ?_) (fun c_3 => ?_)
  · rw [if_pos c_3] at hf
    exact hend σ H locs 13 ls hf hP hD hS dX8_putRegister_13
  · rw [if_neg c_3] at hf
    refine lv_aload_n hx hb dX8_putRegister_6 rfl (lv_at hl 0 rfl) ?_
    refine lv_iload_n hx hb dX8_putRegister_7 rfl (lv_at hl 1 rfl) ?_
    refine lv_lload_n hx hb dX8_putRegister_8 rfl (lv_at hl 2 rfl) ?_
    refine k_X8_putPart (a0 := a0) (a1 := a1) S hK hA hP hD hS tl_X8_19 ⟨Nat.le_of_ble_eq_true rfl, Nat.le_of_ble_eq_true rfl⟩ hl.1 (Nat.le_of_ble_eq_true rfl) dX8_putRegister_9 (fun H locs hP hD hS => ?_)
    refine lv_pop hx hb dX8_putRegister_12 rfl ?_
    exact hend (F_X8_putPart σ a0 a1).2 H locs 13 ls hf hP hD hS dX8_putRegister_13
theorem k_X8_putRegister {p : Program} {l : Launch} {e : Env} {R : Room} {s : State} {m : MethodId} {args : Array Value} {below : List Frame} {meth : Method} {c : Code} {H : Heap} {locs : List Loc} {Q : State → Prop} {cc : ByteArray} {pc : Nat} {ls : Array Slot} {rest : List Value} {own : String} {index nL : Nat} {A : Nat → Prop} {z : Cx} {r : Nat → Nat} {σ : XS} {a0 : Int32} {a1 : Int64} (S : CallFix p m c cc nL s args tbG own) (hK : va_K z.1 vwCl (cxT z) s) (hA : ∀ q, s.heap.size ≤ q → A q) (hP : va_P z.1 vwCl (xW z r σ) H) (hD : va_D A (xW z r σ)) (hS : va_S A s.heap H locs) (hl : Cond.methodLink own index yX8_putRegister ∈ tbG) (hR : 1 + 1 ≤ R.frames ∧ 8 + (4 + 11) + 23 ≤ R.locals) (hsz : ls.size = nL) (hcat : (rest.map fun v => v.category).sum ≤ 8) (hdg : decode cc pc = .ok (.invokevirtual index, 3)) (kk : ∀ (H : Heap) (locs : List Loc), va_P z.1 vwCl (xW z r (F_X8_putRegister σ a0 a1)) H → va_D A (xW z r (F_X8_putRegister σ a0 a1)) → va_S A s.heap H locs → W p l e R s m args below meth c H locs 0 0 Q (F0 m (pc + 3) ls (rest))) : W p l e R s m args below meth c H locs 0 0 Q (F0 m pc ls (.long a1 :: .int a0 :: .ref (r 3) :: rest)) :=
  km (As := [.int a0, .long a1]) (ov := none) (w' := xW z r (F_X8_putRegister σ a0 a1)) (q0 := 3) (ci := 7) S hK hA hP hD hS (c_X8_putRegister l z r σ a0 a1 H.size _ rfl) ⟨tb_cB 2 S.2.2.2.2 tc_X8_putRegister ti_X8 hl rfl rfl (by decide +kernel) hR, S.2.2.2.2 _ tm_X8_putRegister, S.2.2.2.2 _ te_X8_putRegister⟩ rfl rfl rfl rfl hsz rfl hcat hdg kk

