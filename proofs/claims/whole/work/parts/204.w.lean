theorem dX3_partOf_0 : decode cX3_partOf 0 = .ok (.iload_n 0, 1) := by decide +kernel
theorem dX3_partOf_1 : decode cX3_partOf 1 = .ok (.lookupswitch 154 #[(128, 115), (256, 118), (512, 121), (513, 124), (520, 127), (528, 130), (530, 133), (656, 136), (768, 139), (1536, 142), (6672, 145), (6673, 148), (7810, 151)], 115) := by decide +kernel
theorem dX3_partOf_116 : decode cX3_partOf 116 = .ok (.bipush 34, 2) := by decide +kernel
theorem dX3_partOf_118 : decode cX3_partOf 118 = .ok (.ireturn, 1) := by decide +kernel
theorem dX3_partOf_119 : decode cX3_partOf 119 = .ok (.bipush 35, 2) := by decide +kernel
theorem dX3_partOf_121 : decode cX3_partOf 121 = .ok (.ireturn, 1) := by decide +kernel
theorem dX3_partOf_122 : decode cX3_partOf 122 = .ok (.bipush 38, 2) := by decide +kernel
theorem dX3_partOf_124 : decode cX3_partOf 124 = .ok (.ireturn, 1) := by decide +kernel
theorem dX3_partOf_125 : decode cX3_partOf 125 = .ok (.bipush 37, 2) := by decide +kernel
theorem dX3_partOf_127 : decode cX3_partOf 127 = .ok (.ireturn, 1) := by decide +kernel
theorem dX3_partOf_128 : decode cX3_partOf 128 = .ok (.bipush 31, 2) := by decide +kernel
theorem dX3_partOf_130 : decode cX3_partOf 130 = .ok (.ireturn, 1) := by decide +kernel
theorem dX3_partOf_131 : decode cX3_partOf 131 = .ok (.bipush 44, 2) := by decide +kernel
theorem dX3_partOf_133 : decode cX3_partOf 133 = .ok (.ireturn, 1) := by decide +kernel
theorem dX3_partOf_134 : decode cX3_partOf 134 = .ok (.bipush 43, 2) := by decide +kernel
theorem dX3_partOf_136 : decode cX3_partOf 136 = .ok (.ireturn, 1) := by decide +kernel
theorem dX3_partOf_137 : decode cX3_partOf 137 = .ok (.bipush 39, 2) := by decide +kernel
theorem dX3_partOf_139 : decode cX3_partOf 139 = .ok (.ireturn, 1) := by decide +kernel
theorem dX3_partOf_140 : decode cX3_partOf 140 = .ok (.bipush 40, 2) := by decide +kernel
theorem dX3_partOf_142 : decode cX3_partOf 142 = .ok (.ireturn, 1) := by decide +kernel
theorem dX3_partOf_143 : decode cX3_partOf 143 = .ok (.bipush 36, 2) := by decide +kernel
theorem dX3_partOf_145 : decode cX3_partOf 145 = .ok (.ireturn, 1) := by decide +kernel
theorem dX3_partOf_146 : decode cX3_partOf 146 = .ok (.bipush 42, 2) := by decide +kernel
theorem dX3_partOf_148 : decode cX3_partOf 148 = .ok (.ireturn, 1) := by decide +kernel
theorem dX3_partOf_149 : decode cX3_partOf 149 = .ok (.bipush 45, 2) := by decide +kernel
theorem dX3_partOf_151 : decode cX3_partOf 151 = .ok (.ireturn, 1) := by decide +kernel
theorem dX3_partOf_152 : decode cX3_partOf 152 = .ok (.bipush 41, 2) := by decide +kernel
theorem dX3_partOf_154 : decode cX3_partOf 154 = .ok (.ireturn, 1) := by decide +kernel
theorem dX3_partOf_155 : decode cX3_partOf 155 = .ok (.iconst (-1), 1) := by decide +kernel
theorem dX3_partOf_156 : decode cX3_partOf 156 = .ok (.ireturn, 1) := by decide +kernel
def F_X3_partOf (a0 : Int32) : Int32 := (if a0 = 128 then (34 : Int32) else (if a0 = 256 then (35 : Int32) else (if a0 = 512 then (38 : Int32) else (if a0 = 513 then (37 : Int32) else (if a0 = 520 then (31 : Int32) else (if a0 = 528 then (44 : Int32) else (if a0 = 530 then (43 : Int32) else (if a0 = 656 then (39 : Int32) else (if a0 = 768 then (40 : Int32) else (if a0 = 1536 then (36 : Int32) else (if a0 = 6672 then (42 : Int32) else (if a0 = 6673 then (45 : Int32) else (if a0 = 7810 then (41 : Int32) else (-1 : Int32))))))))))))))
set_option maxHeartbeats 4000000 in
set_option maxRecDepth 100000 in
theorem c_X3_partOf (l : Launch) (a0 : Int32) (res : Int32) (hf : F_X3_partOf a0 = res) : Met l yX3_partOf (wsC yX3_partOf cX3_partOf 1 (some .int)) { frames := 0, cells := 0, slots := 0, locals := 0 } (fun v _ => v = ([.int a0] : List Value).toArray) (gS (some (.int res))) 0 0 (fun _ => False) := by
  refine mk_s_i (own := RX3) (by decide) rfl _ (Nat.le_of_ble_eq_true rfl) (fun p e s m below meth c H locs Q ls S hl hend => ?_)
  have hx := S.1
  have hb := S.2.1
  have hown := S.2.2.2.1
  have hts := S.2.2.2.2
  have hl : lv_has ls 1 [(0, .int a0)] := hl
  unfold F_X3_partOf at hf
  refine lv_iload_n hx hb dX3_partOf_0 rfl (lv_at hl 0 rfl) ?_
  by_cases c_1_128 : a0 = 128
  · rw [if_pos c_1_128] at hf
    refine gk_in (k := 128) (tgt := 116) hx hb dX3_partOf_1 c_1_128 (by decide) rfl (by decide) ?_
    refine lv_bipush (v := 34) hx hb dX3_partOf_116 (by decide) ?_
    exact hend (34 : Int32) 118 ls hf dX3_partOf_118
  rw [if_neg c_1_128] at hf
  by_cases c_1_256 : a0 = 256
  · rw [if_pos c_1_256] at hf
    refine gk_in (k := 256) (tgt := 119) hx hb dX3_partOf_1 c_1_256 (by decide) rfl (by decide) ?_
    refine lv_bipush (v := 35) hx hb dX3_partOf_119 (by decide) ?_
    exact hend (35 : Int32) 121 ls hf dX3_partOf_121
  rw [if_neg c_1_256] at hf
  by_cases c_1_512 : a0 = 512
  · rw [if_pos c_1_512] at hf
    refine gk_in (k := 512) (tgt := 122) hx hb dX3_partOf_1 c_1_512 (by decide) rfl (by decide) ?_
    refine lv_bipush (v := 38) hx hb dX3_partOf_122 (by decide) ?_
    exact hend (38 : Int32) 124 ls hf dX3_partOf_124
  rw [if_neg c_1_512] at hf
  by_cases c_1_513 : a0 = 513
  · rw [if_pos c_1_513] at hf
    refine gk_in (k := 513) (tgt := 125) hx hb dX3_partOf_1 c_1_513 (by decide) rfl (by decide) ?_
    refine lv_bipush (v := 37) hx hb dX3_partOf_125 (by decide) ?_
    exact hend (37 : Int32) 127 ls hf dX3_partOf_127
  rw [if_neg c_1_513] at hf
  by_cases c_1_520 : a0 = 520
  · rw [if_pos c_1_520] at hf
    refine gk_in (k := 520) (tgt := 128) hx hb dX3_partOf_1 c_1_520 (by decide) rfl (by decide) ?_
    refine lv_bipush (v := 31) hx hb dX3_partOf_128 (by decide) ?_
    exact hend (31 : Int32) 130 ls hf dX3_partOf_130
  rw [if_neg c_1_520] at hf
  by_cases c_1_528 : a0 = 528
  · rw [if_pos c_1_528] at hf
    refine gk_in (k := 528) (tgt := 131) hx hb dX3_partOf_1 c_1_528 (by decide) rfl (by decide) ?_
    refine lv_bipush (v := 44) hx hb dX3_partOf_131 (by decide) ?_
    exact hend (44 : Int32) 133 ls hf dX3_partOf_133
  rw [if_neg c_1_528] at hf
  by_cases c_1_530 : a0 = 530
  · rw [if_pos c_1_530] at hf
    refine gk_in (k := 530) (tgt := 134) hx hb dX3_partOf_1 c_1_530 (by decide) rfl (by decide) ?_
    refine lv_bipush (v := 43) hx hb dX3_partOf_134 (by decide) ?_
    exact hend (43 : Int32) 136 ls hf dX3_partOf_136
  rw [if_neg c_1_530] at hf
  by_cases c_1_656 : a0 = 656
  · rw [if_pos c_1_656] at hf
    refine gk_in (k := 656) (tgt := 137) hx hb dX3_partOf_1 c_1_656 (by decide) rfl (by decide) ?_
    refine lv_bipush (v := 39) hx hb dX3_partOf_137 (by decide) ?_
    exact hend (39 : Int32) 139 ls hf dX3_partOf_139
  rw [if_neg c_1_656] at hf
  by_cases c_1_768 : a0 = 768
  · rw [if_pos c_1_768] at hf
    refine gk_in (k := 768) (tgt := 140) hx hb dX3_partOf_1 c_1_768 (by decide) rfl (by decide) ?_
    refine lv_bipush (v := 40) hx hb dX3_partOf_140 (by decide) ?_
    exact hend (40 : Int32) 142 ls hf dX3_partOf_142
  rw [if_neg c_1_768] at hf
  by_cases c_1_1536 : a0 = 1536
  · rw [if_pos c_1_1536] at hf
    refine gk_in (k := 1536) (tgt := 143) hx hb dX3_partOf_1 c_1_1536 (by decide) rfl (by decide) ?_
    refine lv_bipush (v := 36) hx hb dX3_partOf_143 (by decide) ?_
    exact hend (36 : Int32) 145 ls hf dX3_partOf_145
  rw [if_neg c_1_1536] at hf
  by_cases c_1_6672 : a0 = 6672
  · rw [if_pos c_1_6672] at hf
    refine gk_in (k := 6672) (tgt := 146) hx hb dX3_partOf_1 c_1_6672 (by decide) rfl (by decide) ?_
    refine lv_bipush (v := 42) hx hb dX3_partOf_146 (by decide) ?_
    exact hend (42 : Int32) 148 ls hf dX3_partOf_148
  rw [if_neg c_1_6672] at hf
  by_cases c_1_6673 : a0 = 6673
  · rw [if_pos c_1_6673] at hf
    refine gk_in (k := 6673) (tgt := 149) hx hb dX3_partOf_1 c_1_6673 (by decide) rfl (by decide) ?_
    refine lv_bipush (v := 45) hx hb dX3_partOf_149 (by decide) ?_
    exact hend (45 : Int32) 151 ls hf dX3_partOf_151
  rw [if_neg c_1_6673] at hf
  by_cases c_1_7810 : a0 = 7810
  · rw [if_pos c_1_7810] at hf
    refine gk_in (k := 7810) (tgt := 152) hx hb dX3_partOf_1 c_1_7810 (by decide) rfl (by decide) ?_
    refine lv_bipush (v := 41) hx hb dX3_partOf_152 (by decide) ?_
    exact hend (41 : Int32) 154 ls hf dX3_partOf_154
  rw [if_neg c_1_7810] at hf
  refine lv_lookup (tgt := 155) (off := 154) hx hb dX3_partOf_1 (by decide) ((lv_osw (a := 128) c_1_128 rfl).trans ((lv_osw (a := 256) c_1_256 rfl).trans ((lv_osw (a := 512) c_1_512 rfl).trans ((lv_osw (a := 513) c_1_513 rfl).trans ((lv_osw (a := 520) c_1_520 rfl).trans ((lv_osw (a := 528) c_1_528 rfl).trans ((lv_osw (a := 530) c_1_530 rfl).trans ((lv_osw (a := 656) c_1_656 rfl).trans ((lv_osw (a := 768) c_1_768 rfl).trans ((lv_osw (a := 1536) c_1_1536 rfl).trans ((lv_osw (a := 6672) c_1_6672 rfl).trans ((lv_osw (a := 6673) c_1_6673 rfl).trans ((lv_osw (a := 7810) c_1_7810 rfl).trans (rfl)))))))))))))) (by decide) ?_
  refine lv_iconst (v := -1) hx hb dX3_partOf_155 (by decide) ?_
  exact hend (-1 : Int32) 156 ls hf dX3_partOf_156
theorem k_X3_partOf {p : Program} {l : Launch} {e : Env} {R : Room} {s : State} {m : MethodId} {args : Array Value} {below : List Frame} {meth : Method} {c : Code} {H : Heap} {locs : List Loc} {Q : State → Prop} {cc : ByteArray} {pc : Nat} {ls : Array Slot} {rest : List Value} {own : String} {index nL : Nat} {a0 : Int32} (S : CallFix p m c cc nL s args tbG own) (hl : Cond.methodLink own index yX3_partOf ∈ tbG) (hR : 0 + 1 ≤ R.frames ∧ 8 + (1 + 11) + 0 ≤ R.locals) (hsz : ls.size = nL) (hcat : (rest.map fun v => v.category).sum ≤ 8) (hdg : decode cc pc = .ok (.invokestatic index, 3)) (kk : W p l e R s m args below meth c H locs 0 0 Q (F0 m (pc + 3) ls (.int (F_X3_partOf a0) :: rest))) : W p l e R s m args below meth c H locs 0 0 Q (F0 m pc ls (.int a0 :: rest)) :=
  ks (As := [.int a0]) (ov := some (.int (F_X3_partOf a0))) S (c_X3_partOf l a0 _ rfl) ⟨tb_cB 1 S.2.2.2.2 tc_X3_partOf ti_X3 hl rfl rfl (by decide +kernel) hR, S.2.2.2.2 _ ts_X3_partOf⟩ rfl hsz rfl hcat hdg kk

theorem dX3_systemWhat_0 : decode cX3_systemWhat 0 = .ok (.ldc 71, 2) := by decide +kernel
theorem dX3_systemWhat_2 : decode cX3_systemWhat 2 = .ok (.iload_n 0, 1) := by decide +kernel
theorem dX3_systemWhat_3 : decode cX3_systemWhat 3 = .ok (.bipush 7, 2) := by decide +kernel
theorem dX3_systemWhat_5 : decode cX3_systemWhat 5 = .ok (.iand, 1) := by decide +kernel
theorem dX3_systemWhat_6 : decode cX3_systemWhat 6 = .ok (.bipush 17, 2) := by decide +kernel
theorem dX3_systemWhat_8 : decode cX3_systemWhat 8 = .ok (.ishl, 1) := by decide +kernel
theorem dX3_systemWhat_9 : decode cX3_systemWhat 9 = .ok (.ior, 1) := by decide +kernel
theorem dX3_systemWhat_10 : decode cX3_systemWhat 10 = .ok (.iload_n 0, 1) := by decide +kernel
theorem dX3_systemWhat_11 : decode cX3_systemWhat 11 = .ok (.bipush 11, 2) := by decide +kernel
theorem dX3_systemWhat_13 : decode cX3_systemWhat 13 = .ok (.iushr, 1) := by decide +kernel
theorem dX3_systemWhat_14 : decode cX3_systemWhat 14 = .ok (.bipush 14, 2) := by decide +kernel
theorem dX3_systemWhat_16 : decode cX3_systemWhat 16 = .ok (.ishl, 1) := by decide +kernel
theorem dX3_systemWhat_17 : decode cX3_systemWhat 17 = .ok (.ior, 1) := by decide +kernel
theorem dX3_systemWhat_18 : decode cX3_systemWhat 18 = .ok (.iload_n 0, 1) := by decide +kernel
theorem dX3_systemWhat_19 : decode cX3_systemWhat 19 = .ok (.bipush 7, 2) := by decide +kernel
theorem dX3_systemWhat_21 : decode cX3_systemWhat 21 = .ok (.iushr, 1) := by decide +kernel
theorem dX3_systemWhat_22 : decode cX3_systemWhat 22 = .ok (.bipush 15, 2) := by decide +kernel
theorem dX3_systemWhat_24 : decode cX3_systemWhat 24 = .ok (.iand, 1) := by decide +kernel
theorem dX3_systemWhat_25 : decode cX3_systemWhat 25 = .ok (.bipush 10, 2) := by decide +kernel
theorem dX3_systemWhat_27 : decode cX3_systemWhat 27 = .ok (.ishl, 1) := by decide +kernel
theorem dX3_systemWhat_28 : decode cX3_systemWhat 28 = .ok (.ior, 1) := by decide +kernel
theorem dX3_systemWhat_29 : decode cX3_systemWhat 29 = .ok (.iload_n 1, 1) := by decide +kernel
theorem dX3_systemWhat_30 : decode cX3_systemWhat 30 = .ok (.iconst 5, 1) := by decide +kernel
theorem dX3_systemWhat_31 : decode cX3_systemWhat 31 = .ok (.ishl, 1) := by decide +kernel
theorem dX3_systemWhat_32 : decode cX3_systemWhat 32 = .ok (.ior, 1) := by decide +kernel
theorem dX3_systemWhat_33 : decode cX3_systemWhat 33 = .ok (.iload_n 0, 1) := by decide +kernel
theorem dX3_systemWhat_34 : decode cX3_systemWhat 34 = .ok (.iconst 3, 1) := by decide +kernel
theorem dX3_systemWhat_35 : decode cX3_systemWhat 35 = .ok (.iushr, 1) := by decide +kernel
theorem dX3_systemWhat_36 : decode cX3_systemWhat 36 = .ok (.bipush 15, 2) := by decide +kernel
theorem dX3_systemWhat_38 : decode cX3_systemWhat 38 = .ok (.iand, 1) := by decide +kernel
theorem dX3_systemWhat_39 : decode cX3_systemWhat 39 = .ok (.iconst 1, 1) := by decide +kernel
theorem dX3_systemWhat_40 : decode cX3_systemWhat 40 = .ok (.ishl, 1) := by decide +kernel
theorem dX3_systemWhat_41 : decode cX3_systemWhat 41 = .ok (.ior, 1) := by decide +kernel
theorem dX3_systemWhat_42 : decode cX3_systemWhat 42 = .ok (.iload_n 2, 1) := by decide +kernel
theorem dX3_systemWhat_43 : decode cX3_systemWhat 43 = .ok (.ifCond .eq 7, 3) := by decide +kernel
theorem dX3_systemWhat_46 : decode cX3_systemWhat 46 = .ok (.iconst 1, 1) := by decide +kernel
theorem dX3_systemWhat_47 : decode cX3_systemWhat 47 = .ok (.goto 4, 3) := by decide +kernel
theorem dX3_systemWhat_50 : decode cX3_systemWhat 50 = .ok (.iconst 0, 1) := by decide +kernel
theorem dX3_systemWhat_51 : decode cX3_systemWhat 51 = .ok (.ior, 1) := by decide +kernel
theorem dX3_systemWhat_52 : decode cX3_systemWhat 52 = .ok (.ireturn, 1) := by decide +kernel
def F_X3_systemWhat (a0 : Int32) (a1 : Int32) (a2 : Bool) : Int32 := (if a2 = true then (((((((3145728 : Int32) ||| ((a0 &&& (7 : Int32)) <<< ((17 : Int32) &&& 31))) ||| ((j_iushr a0 (11 : Int32)) <<< ((14 : Int32) &&& 31))) ||| (((j_iushr a0 (7 : Int32)) &&& (15 : Int32)) <<< ((10 : Int32) &&& 31))) ||| (a1 <<< ((5 : Int32) &&& 31))) ||| (((j_iushr a0 (3 : Int32)) &&& (15 : Int32)) <<< ((1 : Int32) &&& 31))) ||| (1 : Int32)) else (((((((3145728 : Int32) ||| ((a0 &&& (7 : Int32)) <<< ((17 : Int32) &&& 31))) ||| ((j_iushr a0 (11 : Int32)) <<< ((14 : Int32) &&& 31))) ||| (((j_iushr a0 (7 : Int32)) &&& (15 : Int32)) <<< ((10 : Int32) &&& 31))) ||| (a1 <<< ((5 : Int32) &&& 31))) ||| (((j_iushr a0 (3 : Int32)) &&& (15 : Int32)) <<< ((1 : Int32) &&& 31))) ||| (0 : Int32)))
set_option maxHeartbeats 4000000 in
set_option maxRecDepth 100000 in
theorem c_X3_systemWhat (l : Launch) (a0 : Int32) (a1 : Int32) (a2 : Bool) (res : Int32) (hf : F_X3_systemWhat a0 a1 a2 = res) : Met l yX3_systemWhat (wsC yX3_systemWhat cX3_systemWhat 3 (some .int)) { frames := 0, cells := 0, slots := 0, locals := 0 } (fun v _ => v = ([.int a0, .int a1, .int (zB a2)] : List Value).toArray) (gS (some (.int res))) 0 0 (fun _ => False) := by
  refine mk_s_i (own := RX3) (by decide) rfl _ (Nat.le_of_ble_eq_true rfl) (fun p e s m below meth c H locs Q ls S hl hend => ?_)
  have hx := S.1
  have hb := S.2.1
  have hown := S.2.2.2.1
  have hts := S.2.2.2.2
  have hl : lv_has ls 3 [(0, .int a0), (1, .int a1), (2, .int (zB a2))] := hl
  unfold F_X3_systemWhat at hf
  refine lv_ldc (v := 3145728) hx hb hown (hts _ tk_X3_71) dX3_systemWhat_0 ?_
  refine lv_iload_n hx hb dX3_systemWhat_2 rfl (lv_at hl 0 rfl) ?_
  refine lv_bipush (v := 7) hx hb dX3_systemWhat_3 (by decide) ?_
  refine lv_iand hx hb dX3_systemWhat_5 ?_
  refine lv_bipush (v := 17) hx hb dX3_systemWhat_6 (by decide) ?_
  refine lv_ishl hx hb dX3_systemWhat_8 ?_
  refine lv_ior hx hb dX3_systemWhat_9 ?_
  refine lv_iload_n hx hb dX3_systemWhat_10 rfl (lv_at hl 0 rfl) ?_
  refine lv_bipush (v := 11) hx hb dX3_systemWhat_11 (by decide) ?_
  refine lv_iushr (v := (j_iushr a0 (11 : Int32))) hx hb dX3_systemWhat_13 rfl ?_
  refine lv_bipush (v := 14) hx hb dX3_systemWhat_14 (by decide) ?_
  refine lv_ishl hx hb dX3_systemWhat_16 ?_
  refine lv_ior hx hb dX3_systemWhat_17 ?_
  refine lv_iload_n hx hb dX3_systemWhat_18 rfl (lv_at hl 0 rfl) ?_
  refine lv_bipush (v := 7) hx hb dX3_systemWhat_19 (by decide) ?_
  refine lv_iushr (v := (j_iushr a0 (7 : Int32))) hx hb dX3_systemWhat_21 rfl ?_
  refine lv_bipush (v := 15) hx hb dX3_systemWhat_22 (by decide) ?_
  refine lv_iand hx hb dX3_systemWhat_24 ?_
  refine lv_bipush (v := 10) hx hb dX3_systemWhat_25 (by decide) ?_
  refine lv_ishl hx hb dX3_systemWhat_27 ?_
  refine lv_ior hx hb dX3_systemWhat_28 ?_
  refine lv_iload_n hx hb dX3_systemWhat_29 rfl (lv_at hl 1 rfl) ?_
  refine lv_iconst (v := 5) hx hb dX3_systemWhat_30 (by decide) ?_
  refine lv_ishl hx hb dX3_systemWhat_31 ?_
  refine lv_ior hx hb dX3_systemWhat_32 ?_
  refine lv_iload_n hx hb dX3_systemWhat_33 rfl (lv_at hl 0 rfl) ?_
  refine lv_iconst (v := 3) hx hb dX3_systemWhat_34 (by decide) ?_
  refine lv_iushr (v := (j_iushr a0 (3 : Int32))) hx hb dX3_systemWhat_35 rfl ?_
  refine lv_bipush (v := 15) hx hb dX3_systemWhat_36 (by decide) ?_
  refine lv_iand hx hb dX3_systemWhat_38 ?_
  refine lv_iconst (v := 1) hx hb dX3_systemWhat_39 (by decide) ?_
  refine lv_ishl hx hb dX3_systemWhat_40 ?_
  refine lv_ior hx hb dX3_systemWhat_41 ?_
  refine lv_iload_n hx hb dX3_systemWhat_42 rfl (lv_at hl 2 rfl) ?_
  refine gz_eq (tgt := 50) hx hb dX3_systemWhat_43 (by decide) (fun c_43 => ?_) (fun c_43 => ?_)
  · rw [if_neg c_43] at hf
    refine lv_iconst (v := 0) hx hb dX3_systemWhat_50 (by decide) ?_
    refine lv_ior hx hb dX3_systemWhat_51 ?_
    exact hend (((((((3145728 : Int32) ||| ((a0 &&& (7 : Int32)) <<< ((17 : Int32) &&& 31))) ||| ((j_iushr a0 (11 : Int32)) <<< ((14 : Int32) &&& 31))) ||| (((j_iushr a0 (7 : Int32)) &&& (15 : Int32)) <<< ((10 : Int32) &&& 31))) ||| (a1 <<< ((5 : Int32) &&& 31))) ||| (((j_iushr a0 (3 : Int32)) &&& (15 : Int32)) <<< ((1 : Int32) &&& 31))) ||| (0 : Int32)) 52 ls hf dX3_systemWhat_52
  · rw [if_pos c_43] at hf
    refine lv_iconst (v := 1) hx hb dX3_systemWhat_46 (by decide) ?_
    refine lv_goto (tgt := 51) hx hb dX3_systemWhat_47 (by decide) ?_
    refine lv_ior hx hb dX3_systemWhat_51 ?_
    exact hend (((((((3145728 : Int32) ||| ((a0 &&& (7 : Int32)) <<< ((17 : Int32) &&& 31))) ||| ((j_iushr a0 (11 : Int32)) <<< ((14 : Int32) &&& 31))) ||| (((j_iushr a0 (7 : Int32)) &&& (15 : Int32)) <<< ((10 : Int32) &&& 31))) ||| (a1 <<< ((5 : Int32) &&& 31))) ||| (((j_iushr a0 (3 : Int32)) &&& (15 : Int32)) <<< ((1 : Int32) &&& 31))) ||| (1 : Int32)) 52 ls hf dX3_systemWhat_52
theorem k_X3_systemWhat {p : Program} {l : Launch} {e : Env} {R : Room} {s : State} {m : MethodId} {args : Array Value} {below : List Frame} {meth : Method} {c : Code} {H : Heap} {locs : List Loc} {Q : State → Prop} {cc : ByteArray} {pc : Nat} {ls : Array Slot} {rest : List Value} {own : String} {index nL : Nat} {a0 : Int32} {a1 : Int32} {a2 : Bool} (S : CallFix p m c cc nL s args tbG own) (hl : Cond.methodLink own index yX3_systemWhat ∈ tbG) (hR : 0 + 1 ≤ R.frames ∧ 8 + (3 + 11) + 0 ≤ R.locals) (hsz : ls.size = nL) (hcat : (rest.map fun v => v.category).sum ≤ 8) (hdg : decode cc pc = .ok (.invokestatic index, 3)) (kk : W p l e R s m args below meth c H locs 0 0 Q (F0 m (pc + 3) ls (.int (F_X3_systemWhat a0 a1 a2) :: rest))) : W p l e R s m args below meth c H locs 0 0 Q (F0 m pc ls (.int (zB a2) :: .int a1 :: .int a0 :: rest)) :=
  ks (As := [.int a0, .int a1, .int (zB a2)]) (ov := some (.int (F_X3_systemWhat a0 a1 a2))) S (c_X3_systemWhat l a0 a1 a2 _ rfl) ⟨tb_cB 3 S.2.2.2.2 tc_X3_systemWhat ti_X3 hl rfl rfl (by decide +kernel) hR, S.2.2.2.2 _ ts_X3_systemWhat⟩ rfl hsz rfl hcat hdg kk

theorem dX3_placeOf_0 : decode cX3_placeOf 0 = .ok (.iload_n 0, 1) := by decide +kernel
theorem dX3_placeOf_1 : decode cX3_placeOf 1 = .ok (.tableswitch 39 42 45 #[31, 37, 39, 34], 31) := by decide +kernel
theorem dX3_placeOf_32 : decode cX3_placeOf 32 = .ok (.bipush 28, 2) := by decide +kernel
theorem dX3_placeOf_34 : decode cX3_placeOf 34 = .ok (.ireturn, 1) := by decide +kernel
theorem dX3_placeOf_35 : decode cX3_placeOf 35 = .ok (.bipush 7, 2) := by decide +kernel
theorem dX3_placeOf_37 : decode cX3_placeOf 37 = .ok (.ireturn, 1) := by decide +kernel
theorem dX3_placeOf_38 : decode cX3_placeOf 38 = .ok (.iconst 2, 1) := by decide +kernel
theorem dX3_placeOf_39 : decode cX3_placeOf 39 = .ok (.ireturn, 1) := by decide +kernel
theorem dX3_placeOf_40 : decode cX3_placeOf 40 = .ok (.iconst 0, 1) := by decide +kernel
theorem dX3_placeOf_41 : decode cX3_placeOf 41 = .ok (.ireturn, 1) := by decide +kernel
def F_X3_placeOf (a0 : Int32) : Int32 := (if a0 = 42 then (28 : Int32) else (if a0 = 43 then (2 : Int32) else (if a0 = 45 then (7 : Int32) else (0 : Int32))))
set_option maxHeartbeats 4000000 in
set_option maxRecDepth 100000 in
theorem c_X3_placeOf (l : Launch) (a0 : Int32) (res : Int32) (hf : F_X3_placeOf a0 = res) : Met l yX3_placeOf (wsC yX3_placeOf cX3_placeOf 1 (some .int)) { frames := 0, cells := 0, slots := 0, locals := 0 } (fun v _ => v = ([.int a0] : List Value).toArray) (gS (some (.int res))) 0 0 (fun _ => False) := by
  refine mk_s_i (own := RX3) (by decide) rfl _ (Nat.le_of_ble_eq_true rfl) (fun p e s m below meth c H locs Q ls S hl hend => ?_)
  have hx := S.1
  have hb := S.2.1
  have hown := S.2.2.2.1
  have hts := S.2.2.2.2
  have hl : lv_has ls 1 [(0, .int a0)] := hl
  unfold F_X3_placeOf at hf
  refine lv_iload_n hx hb dX3_placeOf_0 rfl (lv_at hl 0 rfl) ?_
  by_cases c_1_42 : a0 = 42
  · rw [if_pos c_1_42] at hf
    refine gt_in (k := 42) (tgt := 32) hx hb dX3_placeOf_1 c_1_42 (by decide) (by decide) rfl (by decide) ?_
    refine lv_bipush (v := 28) hx hb dX3_placeOf_32 (by decide) ?_
    exact hend (28 : Int32) 34 ls hf dX3_placeOf_34
  rw [if_neg c_1_42] at hf
  by_cases c_1_43 : a0 = 43
  · rw [if_pos c_1_43] at hf
    refine gt_in (k := 43) (tgt := 38) hx hb dX3_placeOf_1 c_1_43 (by decide) (by decide) rfl (by decide) ?_
    refine lv_iconst (v := 2) hx hb dX3_placeOf_38 (by decide) ?_
    exact hend (2 : Int32) 39 ls hf dX3_placeOf_39
  rw [if_neg c_1_43] at hf
  by_cases c_1_45 : a0 = 45
  · rw [if_pos c_1_45] at hf
    refine gt_in (k := 45) (tgt := 35) hx hb dX3_placeOf_1 c_1_45 (by decide) (by decide) rfl (by decide) ?_
    refine lv_bipush (v := 7) hx hb dX3_placeOf_35 (by decide) ?_
    exact hend (7 : Int32) 37 ls hf dX3_placeOf_37
  rw [if_neg c_1_45] at hf
  by_cases c_1_44 : a0 = 44
  · refine gt_in (k := 44) (tgt := 40) hx hb dX3_placeOf_1 c_1_44 (by decide) (by decide) rfl (by decide) ?_
    refine lv_iconst (v := 0) hx hb dX3_placeOf_40 (by decide) ?_
    exact hend (0 : Int32) 41 ls hf dX3_placeOf_41
  refine lv_tableOut (tgt := 40) hx hb dX3_placeOf_1 (by have q0 := lv_neT c_1_42 (show ((42 : Int32)).toInt = 42 from rfl); have q1 := lv_neT c_1_43 (show ((43 : Int32)).toInt = 43 from rfl); have q2 := lv_neT c_1_44 (show ((44 : Int32)).toInt = 44 from rfl); have q3 := lv_neT c_1_45 (show ((45 : Int32)).toInt = 45 from rfl); omega) (by decide) ?_
  refine lv_iconst (v := 0) hx hb dX3_placeOf_40 (by decide) ?_
  exact hend (0 : Int32) 41 ls hf dX3_placeOf_41
theorem k_X3_placeOf {p : Program} {l : Launch} {e : Env} {R : Room} {s : State} {m : MethodId} {args : Array Value} {below : List Frame} {meth : Method} {c : Code} {H : Heap} {locs : List Loc} {Q : State → Prop} {cc : ByteArray} {pc : Nat} {ls : Array Slot} {rest : List Value} {own : String} {index nL : Nat} {a0 : Int32} (S : CallFix p m c cc nL s args tbG own) (hl : Cond.methodLink own index yX3_placeOf ∈ tbG) (hR : 0 + 1 ≤ R.frames ∧ 8 + (1 + 11) + 0 ≤ R.locals) (hsz : ls.size = nL) (hcat : (rest.map fun v => v.category).sum ≤ 8) (hdg : decode cc pc = .ok (.invokestatic index, 3)) (kk : W p l e R s m args below meth c H locs 0 0 Q (F0 m (pc + 3) ls (.int (F_X3_placeOf a0) :: rest))) : W p l e R s m args below meth c H locs 0 0 Q (F0 m pc ls (.int a0 :: rest)) :=
  ks (As := [.int a0]) (ov := some (.int (F_X3_placeOf a0))) S (c_X3_placeOf l a0 _ rfl) ⟨tb_cB 1 S.2.2.2.2 tc_X3_placeOf ti_X3 hl rfl rfl (by decide +kernel) hR, S.2.2.2.2 _ ts_X3_placeOf⟩ rfl hsz rfl hcat hdg kk

theorem dX3_system_0 : decode cX3_system 0 = .ok (.iload_n 1, 1) := by decide +kernel
theorem dX3_system_1 : decode cX3_system 1 = .ok (.bipush 21, 2) := by decide +kernel
theorem dX3_system_3 : decode cX3_system 3 = .ok (.invokestatic 49, 3) := by decide +kernel
theorem dX3_system_6 : decode cX3_system 6 = .ok (.istore_n 2, 1) := by decide +kernel
theorem dX3_system_7 : decode cX3_system 7 = .ok (.iload_n 1, 1) := by decide +kernel
theorem dX3_system_8 : decode cX3_system 8 = .ok (.iconst 5, 1) := by decide +kernel
theorem dX3_system_9 : decode cX3_system 9 = .ok (.bipush 14, 2) := by decide +kernel
theorem dX3_system_11 : decode cX3_system 11 = .ok (.invokestatic 15, 3) := by decide +kernel
theorem dX3_system_14 : decode cX3_system 14 = .ok (.istore_n 3, 1) := by decide +kernel
theorem dX3_system_15 : decode cX3_system 15 = .ok (.iload_n 3, 1) := by decide +kernel
theorem dX3_system_16 : decode cX3_system 16 = .ok (.invokestatic 53, 3) := by decide +kernel
theorem dX3_system_19 : decode cX3_system 19 = .ok (.istore 4, 2) := by decide +kernel
theorem dX3_system_21 : decode cX3_system 21 = .ok (.iload_n 1, 1) := by decide +kernel
theorem dX3_system_22 : decode cX3_system 22 = .ok (.bipush 22, 2) := by decide +kernel
theorem dX3_system_24 : decode cX3_system 24 = .ok (.iushr, 1) := by decide +kernel
theorem dX3_system_25 : decode cX3_system 25 = .ok (.sipush 852, 3) := by decide +kernel
theorem dX3_system_28 : decode cX3_system 28 = .ok (.if_icmp .ne 31, 3) := by decide +kernel
theorem dX3_system_31 : decode cX3_system 31 = .ok (.iload_n 1, 1) := by decide +kernel
theorem dX3_system_32 : decode cX3_system 32 = .ok (.bipush 19, 2) := by decide +kernel
theorem dX3_system_34 : decode cX3_system 34 = .ok (.iconst 2, 1) := by decide +kernel
theorem dX3_system_35 : decode cX3_system 35 = .ok (.invokestatic 15, 3) := by decide +kernel
theorem dX3_system_38 : decode cX3_system 38 = .ok (.iconst 3, 1) := by decide +kernel
theorem dX3_system_39 : decode cX3_system 39 = .ok (.if_icmp .ne 20, 3) := by decide +kernel
theorem dX3_system_42 : decode cX3_system 42 = .ok (.iload 4, 2) := by decide +kernel
theorem dX3_system_44 : decode cX3_system 44 = .ok (.iconst (-1), 1) := by decide +kernel
theorem dX3_system_45 : decode cX3_system 45 = .ok (.if_icmp .eq 14, 3) := by decide +kernel
theorem dX3_system_48 : decode cX3_system 48 = .ok (.iload 4, 2) := by decide +kernel
theorem dX3_system_50 : decode cX3_system 50 = .ok (.bipush 43, 2) := by decide +kernel
theorem dX3_system_52 : decode cX3_system 52 = .ok (.if_icmp .ne 9, 3) := by decide +kernel
theorem dX3_system_55 : decode cX3_system 55 = .ok (.iload_n 2, 1) := by decide +kernel
theorem dX3_system_56 : decode cX3_system 56 = .ok (.ifCond .ne 5, 3) := by decide +kernel
theorem dX3_system_59 : decode cX3_system 59 = .ok (.iconst 0, 1) := by decide +kernel
theorem dX3_system_60 : decode cX3_system 60 = .ok (.ireturn, 1) := by decide +kernel
theorem dX3_system_61 : decode cX3_system 61 = .ok (.iload_n 1, 1) := by decide +kernel
theorem dX3_system_62 : decode cX3_system 62 = .ok (.iconst 0, 1) := by decide +kernel
theorem dX3_system_63 : decode cX3_system 63 = .ok (.iconst 5, 1) := by decide +kernel
theorem dX3_system_64 : decode cX3_system 64 = .ok (.invokestatic 15, 3) := by decide +kernel
theorem dX3_system_67 : decode cX3_system 67 = .ok (.istore 5, 2) := by decide +kernel
theorem dX3_system_69 : decode cX3_system 69 = .ok (.aload_n 0, 1) := by decide +kernel
theorem dX3_system_70 : decode cX3_system 70 = .ok (.getfield 9, 3) := by decide +kernel
theorem dX3_system_73 : decode cX3_system 73 = .ok (.invokevirtual 33, 3) := by decide +kernel
theorem dX3_system_76 : decode cX3_system 76 = .ok (.ifCond .ne 36, 3) := by decide +kernel
theorem dX3_system_79 : decode cX3_system 79 = .ok (.iload 4, 2) := by decide +kernel
theorem dX3_system_81 : decode cX3_system 81 = .ok (.bipush 42, 2) := by decide +kernel
theorem dX3_system_83 : decode cX3_system 83 = .ok (.if_icmp .eq 29, 3) := by decide +kernel
theorem dX3_system_86 : decode cX3_system 86 = .ok (.iload 4, 2) := by decide +kernel
theorem dX3_system_88 : decode cX3_system 88 = .ok (.bipush 41, 2) := by decide +kernel
theorem dX3_system_90 : decode cX3_system 90 = .ok (.if_icmp .eq 22, 3) := by decide +kernel
theorem dX3_system_93 : decode cX3_system 93 = .ok (.aload_n 0, 1) := by decide +kernel
theorem dX3_system_94 : decode cX3_system 94 = .ok (.getfield 9, 3) := by decide +kernel
theorem dX3_system_97 : decode cX3_system 97 = .ok (.bipush 24, 2) := by decide +kernel
theorem dX3_system_99 : decode cX3_system 99 = .ok (.iload_n 3, 1) := by decide +kernel
theorem dX3_system_100 : decode cX3_system 100 = .ok (.iload 5, 2) := by decide +kernel
theorem dX3_system_102 : decode cX3_system 102 = .ok (.iload_n 2, 1) := by decide +kernel
theorem dX3_system_103 : decode cX3_system 103 = .ok (.invokestatic 57, 3) := by decide +kernel
theorem dX3_system_106 : decode cX3_system 106 = .ok (.invokevirtual 27, 3) := by decide +kernel
theorem dX3_system_109 : decode cX3_system 109 = .ok (.goto 59, 3) := by decide +kernel
theorem dX3_system_112 : decode cX3_system 112 = .ok (.iload_n 2, 1) := by decide +kernel
theorem dX3_system_113 : decode cX3_system 113 = .ok (.ifCond .eq 30, 3) := by decide +kernel
theorem dX3_system_116 : decode cX3_system 116 = .ok (.aload_n 0, 1) := by decide +kernel
theorem dX3_system_117 : decode cX3_system 117 = .ok (.getfield 9, 3) := by decide +kernel
theorem dX3_system_120 : decode cX3_system 120 = .ok (.iload 5, 2) := by decide +kernel
theorem dX3_system_122 : decode cX3_system 122 = .ok (.aload_n 0, 1) := by decide +kernel
theorem dX3_system_123 : decode cX3_system 123 = .ok (.getfield 9, 3) := by decide +kernel
theorem dX3_system_126 : decode cX3_system 126 = .ok (.iload 4, 2) := by decide +kernel
theorem dX3_system_128 : decode cX3_system 128 = .ok (.invokevirtual 37, 3) := by decide +kernel
theorem dX3_system_131 : decode cX3_system 131 = .ok (.iload 4, 2) := by decide +kernel
theorem dX3_system_133 : decode cX3_system 133 = .ok (.invokestatic 61, 3) := by decide +kernel
theorem dX3_system_136 : decode cX3_system 136 = .ok (.lshl, 1) := by decide +kernel
theorem dX3_system_137 : decode cX3_system 137 = .ok (.invokevirtual 64, 3) := by decide +kernel
theorem dX3_system_140 : decode cX3_system 140 = .ok (.goto 28, 3) := by decide +kernel
theorem dX3_system_143 : decode cX3_system 143 = .ok (.aload_n 0, 1) := by decide +kernel
theorem dX3_system_144 : decode cX3_system 144 = .ok (.getfield 9, 3) := by decide +kernel
theorem dX3_system_147 : decode cX3_system 147 = .ok (.iload 4, 2) := by decide +kernel
theorem dX3_system_149 : decode cX3_system 149 = .ok (.aload_n 0, 1) := by decide +kernel
theorem dX3_system_150 : decode cX3_system 150 = .ok (.getfield 9, 3) := by decide +kernel
theorem dX3_system_153 : decode cX3_system 153 = .ok (.iload 5, 2) := by decide +kernel
theorem dX3_system_155 : decode cX3_system 155 = .ok (.invokevirtual 68, 3) := by decide +kernel
theorem dX3_system_158 : decode cX3_system 158 = .ok (.iload 4, 2) := by decide +kernel
theorem dX3_system_160 : decode cX3_system 160 = .ok (.invokestatic 61, 3) := by decide +kernel
theorem dX3_system_163 : decode cX3_system 163 = .ok (.lushr, 1) := by decide +kernel
theorem dX3_system_164 : decode cX3_system 164 = .ok (.invokevirtual 45, 3) := by decide +kernel
theorem dX3_system_167 : decode cX3_system 167 = .ok (.pop, 1) := by decide +kernel
theorem dX3_system_168 : decode cX3_system 168 = .ok (.iconst 1, 1) := by decide +kernel
theorem dX3_system_169 : decode cX3_system 169 = .ok (.ireturn, 1) := by decide +kernel
def F_X3_system_c167 (τ : XS) (a0 : Int32) (s0 : Bool) : Bool × XS := (true, τ)
def F_X3_system_c140 (τ : XS) (a0 : Int32) : Bool × XS := (true, τ)
def F_X3_system_c112 (τ : XS) (a0 : Int32) (w2 : Bool) (w4 : Int32) (w5 : Int32) : Bool × XS := (if w2 = true then (F_X3_system_c140 (F_X8_putRegister τ w5 (j_lshl (F_X8_part τ w4) (F_X3_placeOf w4))) a0) else (F_X3_system_c167 (F_X8_putPart τ w4 (j_lushr (F_X8_register τ w5) (F_X3_placeOf w4))).2 a0 (F_X8_putPart τ w4 (j_lushr (F_X8_register τ w5) (F_X3_placeOf w4))).1))
def F_X3_system_c109 (τ : XS) (a0 : Int32) : Bool × XS := (true, τ)
def F_X3_system_c69 (τ : XS) (a0 : Int32) (w2 : Bool) (w3 : Int32) (w4 : Int32) (w5 : Int32) : Bool × XS := (if (F_X8_level τ) = 0 then (if w4 = (42 : Int32) then (F_X3_system_c112 τ a0 w2 w4 w5) else (if w4 = (41 : Int32) then (F_X3_system_c112 τ a0 w2 w4 w5) else (F_X3_system_c109 (F_X8_raise τ (24 : Int32) (F_X3_systemWhat w3 w5 w2)) a0))) else (F_X3_system_c112 τ a0 w2 w4 w5))
def F_X3_system_c61 (τ : XS) (a0 : Int32) (w2 : Bool) (w3 : Int32) (w4 : Int32) : Bool × XS := (F_X3_system_c69 τ a0 w2 w3 w4 (F_X1_field a0 (0 : Int32) (5 : Int32)))
def F_X3_system_c21 (τ : XS) (a0 : Int32) (w2 : Bool) (w3 : Int32) (w4 : Int32) : Bool × XS := (if (j_iushr a0 (22 : Int32)) = (852 : Int32) then (if (F_X1_field a0 (19 : Int32) (2 : Int32)) = (3 : Int32) then (if w4 = (-1 : Int32) then (false, τ) else (if w4 = (43 : Int32) then (if w2 = true then (F_X3_system_c61 τ a0 w2 w3 w4) else (false, τ)) else (F_X3_system_c61 τ a0 w2 w3 w4))) else (false, τ)) else (false, τ))
def F_X3_system_c15 (τ : XS) (a0 : Int32) (w2 : Bool) (w3 : Int32) : Bool × XS := (F_X3_system_c21 τ a0 w2 w3 (F_X3_partOf w3))
def F_X3_system_c7 (τ : XS) (a0 : Int32) (w2 : Bool) : Bool × XS := (F_X3_system_c15 τ a0 w2 (F_X1_field a0 (5 : Int32) (14 : Int32)))
def F_X3_system (σ : XS) (a0 : Int32) : Bool × XS := (F_X3_system_c7 σ a0 (F_X1_isOne a0 (21 : Int32)))
set_option maxHeartbeats 4000000 in
set_option maxRecDepth 100000 in
theorem c_X3_system (l : Launch) (z : Cx) (r : Nat → Nat) (σ : XS) (a0 : Int32) (sz : Nat) (res : Bool × XS) (hf : F_X3_system σ a0 = res) : Met l yX3_system (wsC yX3_system cX3_system 6 (some .boolean)) { frames := 2, cells := 0, slots := 0, locals := 49 } (mPc z (xW z r σ) sz [.ref (r 12), .int a0]) (gM z (va_A (xW z r σ) sz) (some (.int (zB res.1))) (xW z r res.2)) 0 0 (va_A (xW z r σ) sz) := by
  refine mk_m_z (own := RX3) (wf := xW z r) (by decide) rfl sz _ (Nat.le_of_ble_eq_true rfl) (fun p e s m below meth c A H locs Q ls S hK hA hP hD hS hl hend => ?_)
  have hx := S.1
  have hb := S.2.1
  have hown := S.2.2.2.1
  have hts := S.2.2.2.2
  have hl : lv_has ls 6 [(0, .ref (r 12)), (1, .int a0)] := hl
  have J_c167 : ∀ (τ : XS) (s0 : Bool) (H : Heap) (locs : List Loc) (ls : Array Slot), F_X3_system_c167 τ a0 s0 = res → va_P z.1 vwCl (xW z r τ) H → va_D A (xW z r τ) → va_S A s.heap H locs → lv_has ls 6 [] → W p l e { frames := 2, cells := 0, slots := 0, locals := 49 } s m ([.ref (r 12), .int a0] : List Value).toArray below meth c H locs 0 0 Q (F0 m 167 ls [.int (zB s0)]) := by
    intro τ s0 H locs ls hf hP hD hS hl
    unfold F_X3_system_c167 at hf
    refine lv_pop hx hb dX3_system_167 rfl ?_
    refine lv_iconst (v := 1) hx hb dX3_system_168 (by decide) ?_
    exact hend true τ H locs 169 ls hf hP hD hS dX3_system_169
  have J_c140 : ∀ (τ : XS) (H : Heap) (locs : List Loc) (ls : Array Slot), F_X3_system_c140 τ a0 = res → va_P z.1 vwCl (xW z r τ) H → va_D A (xW z r τ) → va_S A s.heap H locs → lv_has ls 6 [] → W p l e { frames := 2, cells := 0, slots := 0, locals := 49 } s m ([.ref (r 12), .int a0] : List Value).toArray below meth c H locs 0 0 Q (F0 m 140 ls []) := by
    intro τ H locs ls hf hP hD hS hl
    unfold F_X3_system_c140 at hf
    refine lv_goto (tgt := 168) hx hb dX3_system_140 (by decide) ?_
    refine lv_iconst (v := 1) hx hb dX3_system_168 (by decide) ?_
    exact hend true τ H locs 169 ls hf hP hD hS dX3_system_169
  have J_c112 : ∀ (τ : XS) (w2 : Bool) (w4 : Int32) (w5 : Int32) (H : Heap) (locs : List Loc) (ls : Array Slot), F_X3_system_c112 τ a0 w2 w4 w5 = res → va_P z.1 vwCl (xW z r τ) H → va_D A (xW z r τ) → va_S A s.heap H locs → lv_has ls 6 [(0, .ref (r 12)), (2, .int (zB w2)), (4, .int w4), (5, .int w5)] → W p l e { frames := 2, cells := 0, slots := 0, locals := 49 } s m ([.ref (r 12), .int a0] : List Value).toArray below meth c H locs 0 0 Q (F0 m 112 ls []) := by
    intro τ w2 w4 w5 H locs ls hf hP hD hS hl
    unfold F_X3_system_c112 at hf
    refine lv_iload_n hx hb dX3_system_112 rfl (lv_at hl 1 rfl) ?_
    refine gz_eq (tgt := 143) hx hb dX3_system_113 (by decide) (fun c_113 => ?_) (fun c_113 => ?_)
    · rw [if_neg c_113] at hf
      refine lv_aload_n hx hb dX3_system_143 rfl (lv_at hl 0 rfl) ?_
      refine fg_X3_state S hK hP tf_X3_9 dX3_system_144 ?_
      refine lv_iload hx hb dX3_system_147 (lv_at hl 2 rfl) ?_
      refine lv_aload_n hx hb dX3_system_149 rfl (lv_at hl 0 rfl) ?_
      refine fg_X3_state S hK hP tf_X3_9 dX3_system_150 ?_
      refine lv_iload hx hb dX3_system_153 (lv_at hl 3 rfl) ?_
      refine k_X8_register (a0 := w5) S hK hP tl_X3_68 ⟨Nat.le_of_ble_eq_true rfl, Nat.le_of_ble_eq_true rfl⟩ hl.1 (Nat.le_of_ble_eq_true rfl) dX3_system_155 ?_
      refine lv_iload hx hb dX3_system_158 (lv_at hl 2 rfl) ?_
      refine k_X3_placeOf (a0 := w4) S tl_X3_61 ⟨Nat.le_of_ble_eq_true rfl, Nat.le_of_ble_eq_true rfl⟩ hl.1 (Nat.le_of_ble_eq_true rfl) dX3_system_160 ?_
      refine lv_lushr (v := (j_lushr (F_X8_register τ w5) (F_X3_placeOf w4))) hx hb dX3_system_163 rfl ?_
      refine k_X8_putPart (a0 := w4) (a1 := (j_lushr (F_X8_register τ w5) (F_X3_placeOf w4))) S hK hA hP hD hS tl_X3_45 ⟨Nat.le_of_ble_eq_true rfl, Nat.le_of_ble_eq_true rfl⟩ hl.1 (Nat.le_of_ble_eq_true rfl) dX3_system_164 (fun H locs hP hD hS => ?_)
      exact J_c167 (F_X8_putPart τ w4 (j_lushr (F_X8_register τ w5) (F_X3_placeOf w4))).2 (F_X8_putPart τ w4 (j_lushr (F_X8_register τ w5) (F_X3_placeOf w4))).1 H locs ls hf hP hD hS (lv_sub hl [] rfl)
    · rw [if_pos c_113] at hf
      refine lv_aload_n hx hb dX3_system_116 rfl (lv_at hl 0 rfl) ?_
      refine fg_X3_state S hK hP tf_X3_9 dX3_system_117 ?_
      refine lv_iload hx hb dX3_system_120 (lv_at hl 3 rfl) ?_
      refine lv_aload_n hx hb dX3_system_122 rfl (lv_at hl 0 rfl) ?_
      refine fg_X3_state S hK hP tf_X3_9 dX3_system_123 ?_
      refine lv_iload hx hb dX3_system_126 (lv_at hl 2 rfl) ?_
      refine k_X8_part (a0 := w4) S hK hP tl_X3_37 ⟨Nat.le_of_ble_eq_true rfl, Nat.le_of_ble_eq_true rfl⟩ hl.1 (Nat.le_of_ble_eq_true rfl) dX3_system_128 ?_
      refine lv_iload hx hb dX3_system_131 (lv_at hl 2 rfl) ?_
      refine k_X3_placeOf (a0 := w4) S tl_X3_61 ⟨Nat.le_of_ble_eq_true rfl, Nat.le_of_ble_eq_true rfl⟩ hl.1 (Nat.le_of_ble_eq_true rfl) dX3_system_133 ?_
      refine lv_lshl (v := (j_lshl (F_X8_part τ w4) (F_X3_placeOf w4))) hx hb dX3_system_136 rfl ?_
      refine k_X8_putRegister (a0 := w5) (a1 := (j_lshl (F_X8_part τ w4) (F_X3_placeOf w4))) S hK hA hP hD hS tl_X3_64 ⟨Nat.le_of_ble_eq_true rfl, Nat.le_of_ble_eq_true rfl⟩ hl.1 (Nat.le_of_ble_eq_true rfl) dX3_system_137 (fun H locs hP hD hS => ?_)
      exact J_c140 (F_X8_putRegister τ w5 (j_lshl (F_X8_part τ w4) (F_X3_placeOf w4))) H locs ls hf hP hD hS (lv_sub hl [] rfl)
  have J_c109 : ∀ (τ : XS) (H : Heap) (locs : List Loc) (ls : Array Slot), F_X3_system_c109 τ a0 = res → va_P z.1 vwCl (xW z r τ) H → va_D A (xW z r τ) → va_S A s.heap H locs → lv_has ls 6 [] → W p l e { frames := 2, cells := 0, slots := 0, locals := 49 } s m ([.ref (r 12), .int a0] : List Value).toArray below meth c H locs 0 0 Q (F0 m 109 ls []) := by
    intro τ H locs ls hf hP hD hS hl
    unfold F_X3_system_c109 at hf
    refine lv_goto (tgt := 168) hx hb dX3_system_109 (by decide) ?_
    refine lv_iconst (v := 1) hx hb dX3_system_168 (by decide) ?_
    exact hend true τ H locs 169 ls hf hP hD hS dX3_system_169
  have J_c69 : ∀ (τ : XS) (w2 : Bool) (w3 : Int32) (w4 : Int32) (w5 : Int32) (H : Heap) (locs : List Loc) (ls : Array Slot), F_X3_system_c69 τ a0 w2 w3 w4 w5 = res → va_P z.1 vwCl (xW z r τ) H → va_D A (xW z r τ) → va_S A s.heap H locs → lv_has ls 6 [(0, .ref (r 12)), (2, .int (zB w2)), (3, .int w3), (4, .int w4), (5, .int w5)] → W p l e { frames := 2, cells := 0, slots := 0, locals := 49 } s m ([.ref (r 12), .int a0] : List Value).toArray below meth c H locs 0 0 Q (F0 m 69 ls []) := by
    intro τ w2 w3 w4 w5 H locs ls hf hP hD hS hl
    unfold F_X3_system_c69 at hf
    refine lv_aload_n hx hb dX3_system_69 rfl (lv_at hl 0 rfl) ?_
    refine fg_X3_state S hK hP tf_X3_9 dX3_system_70 ?_
    refine k_X8_level S hK hP tl_X3_33 ⟨Nat.le_of_ble_eq_true rfl, Nat.le_of_ble_eq_true rfl⟩ hl.1 (Nat.le_of_ble_eq_true rfl) dX3_system_73 ?_
    refine lv_if_ne (tgt := 112) hx hb dX3_system_76 (by decide) (fun c_76 => ?_) (fun c_76 => ?_)
    · rw [if_neg c_76] at hf
      exact J_c112 τ w2 w4 w5 H locs ls hf hP hD hS (lv_sub hl [0, 1, 3, 4] rfl)
    · rw [if_pos c_76] at hf
      refine lv_iload hx hb dX3_system_79 (lv_at hl 3 rfl) ?_
      refine lv_bipush (v := 42) hx hb dX3_system_81 (by decide) ?_
      refine lv_icmp_eq (tgt := 112) hx hb dX3_system_83 (by decide) (fun c_83 => ?_) (fun c_83 => ?_)
      · rw [if_pos c_83] at hf
        exact J_c112 τ w2 w4 w5 H locs ls hf hP hD hS (lv_sub hl [0, 1, 3, 4] rfl)
      · rw [if_neg c_83] at hf
        refine lv_iload hx hb dX3_system_86 (lv_at hl 3 rfl) ?_
        refine lv_bipush (v := 41) hx hb dX3_system_88 (by decide) ?_
        refine lv_icmp_eq (tgt := 112) hx hb dX3_system_90 (by decide) (fun c_90 => ?_) (fun c_90 => ?_)
        · rw [if_pos c_90] at hf
          exact J_c112 τ w2 w4 w5 H locs ls hf hP hD hS (lv_sub hl [0, 1, 3, 4] rfl)
        · rw [if_neg c_90] at hf
          refine lv_aload_n hx hb dX3_system_93 rfl (lv_at hl 0 rfl) ?_
          refine fg_X3_state S hK hP tf_X3_9 dX3_system_94 ?_
          refine lv_bipush (v := 24) hx hb dX3_system_97 (by decide) ?_
          refine lv_iload_n hx hb dX3_system_99 rfl (lv_at hl 2 rfl) ?_
          refine lv_iload hx hb dX3_system_100 (lv_at hl 4 rfl) ?_
          refine lv_iload_n hx hb dX3_system_102 rfl (lv_at hl 1 rfl) ?_
          refine k_X3_systemWhat (a0 := w3) (a1 := w5) (a2 := w2) S tl_X3_57 ⟨Nat.le_of_ble_eq_true rfl, Nat.le_of_ble_eq_true rfl⟩ hl.1 (Nat.le_of_ble_eq_true rfl) dX3_system_103 ?_
          refine k_X8_raise (a0 := (24 : Int32)) (a1 := (F_X3_systemWhat w3 w5 w2)) S hK hA hP hD hS tl_X3_27 ⟨Nat.le_of_ble_eq_true rfl, Nat.le_of_ble_eq_true rfl⟩ hl.1 (Nat.le_of_ble_eq_true rfl) dX3_system_106 (fun H locs hP hD hS => ?_)
          exact J_c109 (F_X8_raise τ (24 : Int32) (F_X3_systemWhat w3 w5 w2)) H locs ls hf hP hD hS (lv_sub hl [] rfl)
  have J_c61 : ∀ (τ : XS) (w2 : Bool) (w3 : Int32) (w4 : Int32) (H : Heap) (locs : List Loc) (ls : Array Slot), F_X3_system_c61 τ a0 w2 w3 w4 = res → va_P z.1 vwCl (xW z r τ) H → va_D A (xW z r τ) → va_S A s.heap H locs → lv_has ls 6 [(0, .ref (r 12)), (1, .int a0), (2, .int (zB w2)), (3, .int w3), (4, .int w4)] → W p l e { frames := 2, cells := 0, slots := 0, locals := 49 } s m ([.ref (r 12), .int a0] : List Value).toArray below meth c H locs 0 0 Q (F0 m 61 ls []) := by
    intro τ w2 w3 w4 H locs ls hf hP hD hS hl
    unfold F_X3_system_c61 at hf
    refine lv_iload_n hx hb dX3_system_61 rfl (lv_at hl 1 rfl) ?_
    refine lv_iconst (v := 0) hx hb dX3_system_62 (by decide) ?_
    refine lv_iconst (v := 5) hx hb dX3_system_63 (by decide) ?_
    refine k_X1_field (a0 := a0) (a1 := (0 : Int32)) (a2 := (5 : Int32)) S tl_X3_15 ⟨Nat.le_of_ble_eq_true rfl, Nat.le_of_ble_eq_true rfl⟩ hl.1 (Nat.le_of_ble_eq_true rfl) dX3_system_64 ?_
    refine lv_istore (lv' := [(5, .int (F_X1_field a0 (0 : Int32) (5 : Int32))), (0, .ref (r 12)), (1, .int a0), (2, .int (zB w2)), (3, .int w3), (4, .int w4)]) hx hb dX3_system_67 hl (by decide) rfl (fun ls hl => ?_)
    exact J_c69 τ w2 w3 w4 (F_X1_field a0 (0 : Int32) (5 : Int32)) H locs ls hf hP hD hS (lv_sub hl [1, 3, 4, 5, 0] rfl)
  have J_c21 : ∀ (τ : XS) (w2 : Bool) (w3 : Int32) (w4 : Int32) (H : Heap) (locs : List Loc) (ls : Array Slot), F_X3_system_c21 τ a0 w2 w3 w4 = res → va_P z.1 vwCl (xW z r τ) H → va_D A (xW z r τ) → va_S A s.heap H locs → lv_has ls 6 [(0, .ref (r 12)), (1, .int a0), (2, .int (zB w2)), (3, .int w3), (4, .int w4)] → W p l e { frames := 2, cells := 0, slots := 0, locals := 49 } s m ([.ref (r 12), .int a0] : List Value).toArray below meth c H locs 0 0 Q (F0 m 21 ls []) := by
    intro τ w2 w3 w4 H locs ls hf hP hD hS hl
    unfold F_X3_system_c21 at hf
    refine lv_iload_n hx hb dX3_system_21 rfl (lv_at hl 1 rfl) ?_
    refine lv_bipush (v := 22) hx hb dX3_system_22 (by decide) ?_
    refine lv_iushr (v := (j_iushr a0 (22 : Int32))) hx hb dX3_system_24 rfl ?_
    refine lv_sipush (v := 852) hx hb dX3_system_25 (by decide) ?_
    refine lv_icmp_ne (tgt := 59) hx hb dX3_system_28 (by decide) (fun c_28 => ?_) (fun c_28 => ?_)
    · rw [if_neg c_28] at hf
      refine lv_iconst (v := 0) hx hb dX3_system_59 (by decide) ?_
      exact hend false τ H locs 60 ls hf hP hD hS dX3_system_60
    · rw [if_pos c_28] at hf
      refine lv_iload_n hx hb dX3_system_31 rfl (lv_at hl 1 rfl) ?_
      refine lv_bipush (v := 19) hx hb dX3_system_32 (by decide) ?_
      refine lv_iconst (v := 2) hx hb dX3_system_34 (by decide) ?_
      refine k_X1_field (a0 := a0) (a1 := (19 : Int32)) (a2 := (2 : Int32)) S tl_X3_15 ⟨Nat.le_of_ble_eq_true rfl, Nat.le_of_ble_eq_true rfl⟩ hl.1 (Nat.le_of_ble_eq_true rfl) dX3_system_35 ?_
      refine lv_iconst (v := 3) hx hb dX3_system_38 (by decide) ?_
      refine lv_icmp_ne (tgt := 59) hx hb dX3_system_39 (by decide) (fun c_39 => ?_) (fun c_39 => ?_)
      · rw [if_neg c_39] at hf
        refine lv_iconst (v := 0) hx hb dX3_system_59 (by decide) ?_
        exact hend false τ H locs 60 ls hf hP hD hS dX3_system_60
      · rw [if_pos c_39] at hf
        refine lv_iload hx hb dX3_system_42 (lv_at hl 4 rfl) ?_
        refine lv_iconst (v := -1) hx hb dX3_system_44 (by decide) ?_
        refine lv_icmp_eq (tgt := 59) hx hb dX3_system_45 (by decide) (fun c_45 => ?_) (fun c_45 => ?_)
        · rw [if_pos c_45] at hf
          refine lv_iconst (v := 0) hx hb dX3_system_59 (by decide) ?_
          exact hend false τ H locs 60 ls hf hP hD hS dX3_system_60
        · rw [if_neg c_45] at hf
          refine lv_iload hx hb dX3_system_48 (lv_at hl 4 rfl) ?_
          refine lv_bipush (v := 43) hx hb dX3_system_50 (by decide) ?_
          refine lv_icmp_ne (tgt := 61) hx hb dX3_system_52 (by decide) (fun c_52 => ?_) (fun c_52 => ?_)
          · rw [if_neg c_52] at hf
            exact J_c61 τ w2 w3 w4 H locs ls hf hP hD hS (lv_sub hl [0, 1, 2, 3, 4] rfl)
          · rw [if_pos c_52] at hf
            refine lv_iload_n hx hb dX3_system_55 rfl (lv_at hl 2 rfl) ?_
            refine gz_ne (tgt := 61) hx hb dX3_system_56 (by decide) (fun c_56 => ?_) (fun c_56 => ?_)
            · rw [if_pos c_56] at hf
              exact J_c61 τ w2 w3 w4 H locs ls hf hP hD hS (lv_sub hl [0, 1, 2, 3, 4] rfl)
            · rw [if_neg c_56] at hf
              refine lv_iconst (v := 0) hx hb dX3_system_59 (by decide) ?_
              exact hend false τ H locs 60 ls hf hP hD hS dX3_system_60
  have J_c15 : ∀ (τ : XS) (w2 : Bool) (w3 : Int32) (H : Heap) (locs : List Loc) (ls : Array Slot), F_X3_system_c15 τ a0 w2 w3 = res → va_P z.1 vwCl (xW z r τ) H → va_D A (xW z r τ) → va_S A s.heap H locs → lv_has ls 6 [(0, .ref (r 12)), (1, .int a0), (2, .int (zB w2)), (3, .int w3)] → W p l e { frames := 2, cells := 0, slots := 0, locals := 49 } s m ([.ref (r 12), .int a0] : List Value).toArray below meth c H locs 0 0 Q (F0 m 15 ls []) := by
    intro τ w2 w3 H locs ls hf hP hD hS hl
    unfold F_X3_system_c15 at hf
    refine lv_iload_n hx hb dX3_system_15 rfl (lv_at hl 3 rfl) ?_
    refine k_X3_partOf (a0 := w3) S tl_X3_53 ⟨Nat.le_of_ble_eq_true rfl, Nat.le_of_ble_eq_true rfl⟩ hl.1 (Nat.le_of_ble_eq_true rfl) dX3_system_16 ?_
    refine lv_istore (lv' := [(4, .int (F_X3_partOf w3)), (0, .ref (r 12)), (1, .int a0), (2, .int (zB w2)), (3, .int w3)]) hx hb dX3_system_19 hl (by decide) rfl (fun ls hl => ?_)
    exact J_c21 τ w2 w3 (F_X3_partOf w3) H locs ls hf hP hD hS (lv_sub hl [1, 2, 3, 4, 0] rfl)
  have J_c7 : ∀ (τ : XS) (w2 : Bool) (H : Heap) (locs : List Loc) (ls : Array Slot), F_X3_system_c7 τ a0 w2 = res → va_P z.1 vwCl (xW z r τ) H → va_D A (xW z r τ) → va_S A s.heap H locs → lv_has ls 6 [(0, .ref (r 12)), (1, .int a0), (2, .int (zB w2))] → W p l e { frames := 2, cells := 0, slots := 0, locals := 49 } s m ([.ref (r 12), .int a0] : List Value).toArray below meth c H locs 0 0 Q (F0 m 7 ls []) := by
    intro τ w2 H locs ls hf hP hD hS hl
    unfold F_X3_system_c7 at hf
    refine lv_iload_n hx hb dX3_system_7 rfl (lv_at hl 1 rfl) ?_
    refine lv_iconst (v := 5) hx hb dX3_system_8 (by decide) ?_
    refine lv_bipush (v := 14) hx hb dX3_system_9 (by decide) ?_
    refine k_X1_field (a0 := a0) (a1 := (5 : Int32)) (a2 := (14 : Int32)) S tl_X3_15 ⟨Nat.le_of_ble_eq_true rfl, Nat.le_of_ble_eq_true rfl⟩ hl.1 (Nat.le_of_ble_eq_true rfl) dX3_system_11 ?_
    refine lv_istore_n (lv' := [(3, .int (F_X1_field a0 (5 : Int32) (14 : Int32))), (0, .ref (r 12)), (1, .int a0), (2, .int (zB w2))]) hx hb dX3_system_14 rfl hl (by decide) rfl (fun ls hl => ?_)
    exact J_c15 τ w2 (F_X1_field a0 (5 : Int32) (14 : Int32)) H locs ls hf hP hD hS (lv_sub hl [1, 2, 3, 0] rfl)
  unfold F_X3_system at hf
  refine lv_iload_n hx hb dX3_system_0 rfl (lv_at hl 1 rfl) ?_
  refine lv_bipush (v := 21) hx hb dX3_system_1 (by decide) ?_
  refine k_X1_isOne (a0 := a0) (a1 := (21 : Int32)) S tl_X3_49 ⟨Nat.le_of_ble_eq_true rfl, Nat.le_of_ble_eq_true rfl⟩ hl.1 (Nat.le_of_ble_eq_true rfl) dX3_system_3 ?_
  refine lv_istore_n (lv' := [(2, .int (zB (F_X1_isOne a0 (21 : Int32)))), (0, .ref (r 12)), (1, .int a0)]) hx hb dX3_system_6 rfl hl (by decide) rfl (fun ls hl => ?_)
  exact J_c7 σ (F_X1_isOne a0 (21 : Int32)) H locs ls hf hP hD hS (lv_sub hl [1, 2, 0] rfl)
theorem k_X3_system {p : Program} {l : Launch} {e : Env} {R : Room} {s : State} {m : MethodId} {args : Array Value} {below : List Frame} {meth : Method} {c : Code} {H : Heap} {locs : List Loc} {Q : State → Prop} {cc : ByteArray} {pc : Nat} {ls : Array Slot} {rest : List Value} {own : String} {index nL : Nat} {A : Nat → Prop} {z : Cx} {r : Nat → Nat} {σ : XS} {a0 : Int32} (S : CallFix p m c cc nL s args tbG own) (hK : va_K z.1 vwCl (cxT z) s) (hA : ∀ q, s.heap.size ≤ q → A q) (hP : va_P z.1 vwCl (xW z r σ) H) (hD : va_D A (xW z r σ)) (hS : va_S A s.heap H locs) (hl : Cond.methodLink own index yX3_system ∈ tbG) (hR : 2 + 1 ≤ R.frames ∧ 8 + (6 + 11) + 49 ≤ R.locals) (hsz : ls.size = nL) (hcat : (rest.map fun v => v.category).sum ≤ 8) (hdg : decode cc pc = .ok (.invokevirtual index, 3)) (kk : ∀ (H : Heap) (locs : List Loc), va_P z.1 vwCl (xW z r (F_X3_system σ a0).2) H → va_D A (xW z r (F_X3_system σ a0).2) → va_S A s.heap H locs → W p l e R s m args below meth c H locs 0 0 Q (F0 m (pc + 3) ls (.int (zB (F_X3_system σ a0).1) :: rest))) : W p l e R s m args below meth c H locs 0 0 Q (F0 m pc ls (.int a0 :: .ref (r 12) :: rest)) :=
  km (As := [.int a0]) (ov := some (.int (zB (F_X3_system σ a0).1))) (w' := xW z r (F_X3_system σ a0).2) (q0 := 12) (ci := 2) S hK hA hP hD hS (c_X3_system l z r σ a0 H.size _ rfl) ⟨tb_cB 1 S.2.2.2.2 tc_X3_system ti_X3 hl rfl rfl (by decide +kernel) hR, S.2.2.2.2 _ tm_X3_system, S.2.2.2.2 _ te_X3_system⟩ rfl rfl rfl rfl hsz rfl hcat hdg kk

theorem dX3_setting_0 : decode cX3_setting 0 = .ok (.iload_n 1, 1) := by decide +kernel
theorem dX3_setting_1 : decode cX3_setting 1 = .ok (.bipush 19, 2) := by decide +kernel
theorem dX3_setting_3 : decode cX3_setting 3 = .ok (.iushr, 1) := by decide +kernel
theorem dX3_setting_4 : decode cX3_setting 4 = .ok (.sipush 6816, 3) := by decide +kernel
theorem dX3_setting_7 : decode cX3_setting 7 = .ok (.if_icmp .ne 35, 3) := by decide +kernel
theorem dX3_setting_10 : decode cX3_setting 10 = .ok (.iload_n 1, 1) := by decide +kernel
theorem dX3_setting_11 : decode cX3_setting 11 = .ok (.bipush 12, 2) := by decide +kernel
theorem dX3_setting_13 : decode cX3_setting 13 = .ok (.iconst 4, 1) := by decide +kernel
theorem dX3_setting_14 : decode cX3_setting 14 = .ok (.invokestatic 15, 3) := by decide +kernel
theorem dX3_setting_17 : decode cX3_setting 17 = .ok (.iconst 4, 1) := by decide +kernel
theorem dX3_setting_18 : decode cX3_setting 18 = .ok (.if_icmp .ne 24, 3) := by decide +kernel
theorem dX3_setting_21 : decode cX3_setting 21 = .ok (.iload_n 1, 1) := by decide +kernel
theorem dX3_setting_22 : decode cX3_setting 22 = .ok (.iconst 0, 1) := by decide +kernel
theorem dX3_setting_23 : decode cX3_setting 23 = .ok (.iconst 5, 1) := by decide +kernel
theorem dX3_setting_24 : decode cX3_setting 24 = .ok (.invokestatic 15, 3) := by decide +kernel
theorem dX3_setting_27 : decode cX3_setting 27 = .ok (.bipush 31, 2) := by decide +kernel
theorem dX3_setting_29 : decode cX3_setting 29 = .ok (.if_icmp .ne 13, 3) := by decide +kernel
theorem dX3_setting_32 : decode cX3_setting 32 = .ok (.aload_n 0, 1) := by decide +kernel
theorem dX3_setting_33 : decode cX3_setting 33 = .ok (.getfield 9, 3) := by decide +kernel
theorem dX3_setting_36 : decode cX3_setting 36 = .ok (.invokevirtual 33, 3) := by decide +kernel
theorem dX3_setting_39 : decode cX3_setting 39 = .ok (.ifCond .ne 5, 3) := by decide +kernel
theorem dX3_setting_42 : decode cX3_setting 42 = .ok (.iconst 0, 1) := by decide +kernel
theorem dX3_setting_43 : decode cX3_setting 43 = .ok (.ireturn, 1) := by decide +kernel
theorem dX3_setting_44 : decode cX3_setting 44 = .ok (.iload_n 1, 1) := by decide +kernel
theorem dX3_setting_45 : decode cX3_setting 45 = .ok (.bipush 8, 2) := by decide +kernel
theorem dX3_setting_47 : decode cX3_setting 47 = .ok (.iconst 4, 1) := by decide +kernel
theorem dX3_setting_48 : decode cX3_setting 48 = .ok (.invokestatic 15, 3) := by decide +kernel
theorem dX3_setting_51 : decode cX3_setting 51 = .ok (.istore_n 2, 1) := by decide +kernel
theorem dX3_setting_52 : decode cX3_setting 52 = .ok (.iload_n 1, 1) := by decide +kernel
theorem dX3_setting_53 : decode cX3_setting 53 = .ok (.bipush 16, 2) := by decide +kernel
theorem dX3_setting_55 : decode cX3_setting 55 = .ok (.iconst 3, 1) := by decide +kernel
theorem dX3_setting_56 : decode cX3_setting 56 = .ok (.invokestatic 15, 3) := by decide +kernel
theorem dX3_setting_59 : decode cX3_setting 59 = .ok (.iconst 3, 1) := by decide +kernel
theorem dX3_setting_60 : decode cX3_setting 60 = .ok (.ishl, 1) := by decide +kernel
theorem dX3_setting_61 : decode cX3_setting 61 = .ok (.iload_n 1, 1) := by decide +kernel
theorem dX3_setting_62 : decode cX3_setting 62 = .ok (.iconst 5, 1) := by decide +kernel
theorem dX3_setting_63 : decode cX3_setting 63 = .ok (.iconst 3, 1) := by decide +kernel
theorem dX3_setting_64 : decode cX3_setting 64 = .ok (.invokestatic 15, 3) := by decide +kernel
theorem dX3_setting_67 : decode cX3_setting 67 = .ok (.ior, 1) := by decide +kernel
theorem dX3_setting_68 : decode cX3_setting 68 = .ok (.lookupswitch 81 #[(5, 36), (30, 50), (31, 50)], 36) := by decide +kernel
theorem dX3_setting_104 : decode cX3_setting 104 = .ok (.aload_n 0, 1) := by decide +kernel
theorem dX3_setting_105 : decode cX3_setting 105 = .ok (.getfield 9, 3) := by decide +kernel
theorem dX3_setting_108 : decode cX3_setting 108 = .ok (.bipush 44, 2) := by decide +kernel
theorem dX3_setting_110 : decode cX3_setting 110 = .ok (.iload_n 2, 1) := by decide +kernel
theorem dX3_setting_111 : decode cX3_setting 111 = .ok (.i2l, 1) := by decide +kernel
theorem dX3_setting_112 : decode cX3_setting 112 = .ok (.invokevirtual 45, 3) := by decide +kernel
theorem dX3_setting_115 : decode cX3_setting 115 = .ok (.pop, 1) := by decide +kernel
theorem dX3_setting_116 : decode cX3_setting 116 = .ok (.iconst 1, 1) := by decide +kernel
theorem dX3_setting_117 : decode cX3_setting 117 = .ok (.ireturn, 1) := by decide +kernel
theorem dX3_setting_118 : decode cX3_setting 118 = .ok (.iload_n 2, 1) := by decide +kernel
theorem dX3_setting_119 : decode cX3_setting 119 = .ok (.iconst 2, 1) := by decide +kernel
theorem dX3_setting_120 : decode cX3_setting 120 = .ok (.iand, 1) := by decide +kernel
theorem dX3_setting_121 : decode cX3_setting 121 = .ok (.ifCond .eq 26, 3) := by decide +kernel
theorem dX3_setting_124 : decode cX3_setting 124 = .ok (.aload_n 0, 1) := by decide +kernel
theorem dX3_setting_125 : decode cX3_setting 125 = .ok (.getfield 9, 3) := by decide +kernel
theorem dX3_setting_128 : decode cX3_setting 128 = .ok (.bipush 45, 2) := by decide +kernel
theorem dX3_setting_130 : decode cX3_setting 130 = .ok (.iload_n 1, 1) := by decide +kernel
theorem dX3_setting_131 : decode cX3_setting 131 = .ok (.iconst 5, 1) := by decide +kernel
theorem dX3_setting_132 : decode cX3_setting 132 = .ok (.invokestatic 49, 3) := by decide +kernel
theorem dX3_setting_135 : decode cX3_setting 135 = .ok (.ifCond .eq 7, 3) := by decide +kernel
theorem dX3_setting_138 : decode cX3_setting 138 = .ok (.lconst 0, 1) := by decide +kernel
theorem dX3_setting_139 : decode cX3_setting 139 = .ok (.goto 4, 3) := by decide +kernel
theorem dX3_setting_142 : decode cX3_setting 142 = .ok (.lconst 1, 1) := by decide +kernel
theorem dX3_setting_143 : decode cX3_setting 143 = .ok (.invokevirtual 45, 3) := by decide +kernel
theorem dX3_setting_146 : decode cX3_setting 146 = .ok (.pop, 1) := by decide +kernel
theorem dX3_setting_147 : decode cX3_setting 147 = .ok (.iconst 1, 1) := by decide +kernel
theorem dX3_setting_148 : decode cX3_setting 148 = .ok (.ireturn, 1) := by decide +kernel
theorem dX3_setting_149 : decode cX3_setting 149 = .ok (.iconst 0, 1) := by decide +kernel
theorem dX3_setting_150 : decode cX3_setting 150 = .ok (.ireturn, 1) := by decide +kernel
def F_X3_setting_c143 (τ : XS) (a0 : Int32) (s2 : Int64) : Bool × XS := (true, (F_X8_putPart τ (45 : Int32) s2).2)
def F_X3_setting_c52 (τ : XS) (a0 : Int32) (w2 : Int32) : Bool × XS := (if (((F_X1_field a0 (16 : Int32) (3 : Int32)) <<< ((3 : Int32) &&& 31)) ||| (F_X1_field a0 (5 : Int32) (3 : Int32))) = 5 then (true, (F_X8_putPart τ (44 : Int32) w2.toInt64).2) else (if (((F_X1_field a0 (16 : Int32) (3 : Int32)) <<< ((3 : Int32) &&& 31)) ||| (F_X1_field a0 (5 : Int32) (3 : Int32))) = 30 then (if (w2 &&& (2 : Int32)) = 0 then (true, τ) else (if (F_X1_isOne a0 (5 : Int32)) = true then (F_X3_setting_c143 τ a0 (0 : Int64)) else (F_X3_setting_c143 τ a0 (1 : Int64)))) else (if (((F_X1_field a0 (16 : Int32) (3 : Int32)) <<< ((3 : Int32) &&& 31)) ||| (F_X1_field a0 (5 : Int32) (3 : Int32))) = 31 then (if (w2 &&& (2 : Int32)) = 0 then (true, τ) else (if (F_X1_isOne a0 (5 : Int32)) = true then (F_X3_setting_c143 τ a0 (0 : Int64)) else (F_X3_setting_c143 τ a0 (1 : Int64)))) else (false, τ))))
def F_X3_setting (σ : XS) (a0 : Int32) : Bool × XS := (if (j_iushr a0 (19 : Int32)) = (6816 : Int32) then (if (F_X1_field a0 (12 : Int32) (4 : Int32)) = (4 : Int32) then (if (F_X1_field a0 (0 : Int32) (5 : Int32)) = (31 : Int32) then (if (F_X8_level σ) = 0 then (false, σ) else (F_X3_setting_c52 σ a0 (F_X1_field a0 (8 : Int32) (4 : Int32)))) else (false, σ)) else (false, σ)) else (false, σ))
set_option maxHeartbeats 4000000 in
set_option maxRecDepth 100000 in
theorem c_X3_setting (l : Launch) (z : Cx) (r : Nat → Nat) (σ : XS) (a0 : Int32) (sz : Nat) (res : Bool × XS) (hf : F_X3_setting σ a0 = res) : Met l yX3_setting (wsC yX3_setting cX3_setting 3 (some .boolean)) { frames := 1, cells := 0, slots := 0, locals := 23 } (mPc z (xW z r σ) sz [.ref (r 12), .int a0]) (gM z (va_A (xW z r σ) sz) (some (.int (zB res.1))) (xW z r res.2)) 0 0 (va_A (xW z r σ) sz) := by
  refine mk_m_z (own := RX3) (wf := xW z r) (by decide) rfl sz _ (Nat.le_of_ble_eq_true rfl) (fun p e s m below meth c A H locs Q ls S hK hA hP hD hS hl hend => ?_)
  have hx := S.1
  have hb := S.2.1
  have hown := S.2.2.2.1
  have hts := S.2.2.2.2
  have hl : lv_has ls 3 [(0, .ref (r 12)), (1, .int a0)] := hl
  have J_c143 : ∀ (τ : XS) (s2 : Int64) (H : Heap) (locs : List Loc) (ls : Array Slot), F_X3_setting_c143 τ a0 s2 = res → va_P z.1 vwCl (xW z r τ) H → va_D A (xW z r τ) → va_S A s.heap H locs → lv_has ls 3 [] → W p l e { frames := 1, cells := 0, slots := 0, locals := 23 } s m ([.ref (r 12), .int a0] : List Value).toArray below meth c H locs 0 0 Q (F0 m 143 ls [.long s2, .int (45 : Int32), .ref (r 3)]) := by
    intro τ s2 H locs ls hf hP hD hS hl
    unfold F_X3_setting_c143 at hf
    refine k_X8_putPart (a0 := (45 : Int32)) (a1 := s2) S hK hA hP hD hS tl_X3_45 ⟨Nat.le_of_ble_eq_true rfl, Nat.le_of_ble_eq_true rfl⟩ hl.1 (Nat.le_of_ble_eq_true rfl) dX3_setting_143 (fun H locs hP hD hS => ?_)
    refine lv_pop hx hb dX3_setting_146 rfl ?_
    refine lv_iconst (v := 1) hx hb dX3_setting_147 (by decide) ?_
    exact hend true (F_X8_putPart τ (45 : Int32) s2).2 H locs 148 ls hf hP hD hS dX3_setting_148
  have J_c52 : ∀ (τ : XS) (w2 : Int32) (H : Heap) (locs : List Loc) (ls : Array Slot), F_X3_setting_c52 τ a0 w2 = res → va_P z.1 vwCl (xW z r τ) H → va_D A (xW z r τ) → va_S A s.heap H locs → lv_has ls 3 [(0, .ref (r 12)), (1, .int a0), (2, .int w2)] → W p l e { frames := 1, cells := 0, slots := 0, locals := 23 } s m ([.ref (r 12), .int a0] : List Value).toArray below meth c H locs 0 0 Q (F0 m 52 ls []) := by
    intro τ w2 H locs ls hf hP hD hS hl
    unfold F_X3_setting_c52 at hf
    refine lv_iload_n hx hb dX3_setting_52 rfl (lv_at hl 1 rfl) ?_
    refine lv_bipush (v := 16) hx hb dX3_setting_53 (by decide) ?_
    refine lv_iconst (v := 3) hx hb dX3_setting_55 (by decide) ?_
    refine k_X1_field (a0 := a0) (a1 := (16 : Int32)) (a2 := (3 : Int32)) S tl_X3_15 ⟨Nat.le_of_ble_eq_true rfl, Nat.le_of_ble_eq_true rfl⟩ hl.1 (Nat.le_of_ble_eq_true rfl) dX3_setting_56 ?_
    refine lv_iconst (v := 3) hx hb dX3_setting_59 (by decide) ?_
    refine lv_ishl hx hb dX3_setting_60 ?_
    refine lv_iload_n hx hb dX3_setting_61 rfl (lv_at hl 1 rfl) ?_
    refine lv_iconst (v := 5) hx hb dX3_setting_62 (by decide) ?_
    refine lv_iconst (v := 3) hx hb dX3_setting_63 (by decide) ?_
    refine k_X1_field (a0 := a0) (a1 := (5 : Int32)) (a2 := (3 : Int32)) S tl_X3_15 ⟨Nat.le_of_ble_eq_true rfl, Nat.le_of_ble_eq_true rfl⟩ hl.1 (Nat.le_of_ble_eq_true rfl) dX3_setting_64 ?_
    refine lv_ior hx hb dX3_setting_67 ?_
    by_cases c_68_5 : (((F_X1_field a0 (16 : Int32) (3 : Int32)) <<< ((3 : Int32) &&& 31)) ||| (F_X1_field a0 (5 : Int32) (3 : Int32))) = 5
    · rw [if_pos c_68_5] at hf
      refine gk_in (k := 5) (tgt := 104) hx hb dX3_setting_68 c_68_5 (by decide) rfl (by decide) ?_
      refine lv_aload_n hx hb dX3_setting_104 rfl (lv_at hl 0 rfl) ?_
      refine fg_X3_state S hK hP tf_X3_9 dX3_setting_105 ?_
      refine lv_bipush (v := 44) hx hb dX3_setting_108 (by decide) ?_
      refine lv_iload_n hx hb dX3_setting_110 rfl (lv_at hl 2 rfl) ?_
      refine lv_i2l hx hb dX3_setting_111 rfl ?_
      refine k_X8_putPart (a0 := (44 : Int32)) (a1 := w2.toInt64) S hK hA hP hD hS tl_X3_45 ⟨Nat.le_of_ble_eq_true rfl, Nat.le_of_ble_eq_true rfl⟩ hl.1 (Nat.le_of_ble_eq_true rfl) dX3_setting_112 (fun H locs hP hD hS => ?_)
      refine lv_pop hx hb dX3_setting_115 rfl ?_
      refine lv_iconst (v := 1) hx hb dX3_setting_116 (by decide) ?_
      exact hend true (F_X8_putPart τ (44 : Int32) w2.toInt64).2 H locs 117 ls hf hP hD hS dX3_setting_117
    rw [if_neg c_68_5] at hf
    by_cases c_68_30 : (((F_X1_field a0 (16 : Int32) (3 : Int32)) <<< ((3 : Int32) &&& 31)) ||| (F_X1_field a0 (5 : Int32) (3 : Int32))) = 30
    · rw [if_pos c_68_30] at hf
      refine gk_in (k := 30) (tgt := 118) hx hb dX3_setting_68 c_68_30 (by decide) rfl (by decide) ?_
      refine lv_iload_n hx hb dX3_setting_118 rfl (lv_at hl 2 rfl) ?_
      refine lv_iconst (v := 2) hx hb dX3_setting_119 (by decide) ?_
      refine lv_iand hx hb dX3_setting_120 ?_
      refine lv_if_eq (tgt := 147) hx hb dX3_setting_121 (by decide) (fun c_121 => ?_) (fun c_121 => ?_)
      · rw [if_pos c_121] at hf
        refine lv_iconst (v := 1) hx hb dX3_setting_147 (by decide) ?_
        exact hend true τ H locs 148 ls hf hP hD hS dX3_setting_148
      · rw [if_neg c_121] at hf
        refine lv_aload_n hx hb dX3_setting_124 rfl (lv_at hl 0 rfl) ?_
        refine fg_X3_state S hK hP tf_X3_9 dX3_setting_125 ?_
        refine lv_bipush (v := 45) hx hb dX3_setting_128 (by decide) ?_
        refine lv_iload_n hx hb dX3_setting_130 rfl (lv_at hl 1 rfl) ?_
        refine lv_iconst (v := 5) hx hb dX3_setting_131 (by decide) ?_
        refine k_X1_isOne (a0 := a0) (a1 := (5 : Int32)) S tl_X3_49 ⟨Nat.le_of_ble_eq_true rfl, Nat.le_of_ble_eq_true rfl⟩ hl.1 (Nat.le_of_ble_eq_true rfl) dX3_setting_132 ?_
        refine gz_eq (tgt := 142) hx hb dX3_setting_135 (by decide) (fun c_135 => ?_) (fun c_135 => ?_)
        · rw [if_neg c_135] at hf
          refine lv_lconst (v := 1) hx hb dX3_setting_142 (by decide) ?_
          exact J_c143 τ (1 : Int64) H locs ls hf hP hD hS (lv_sub hl [] rfl)
        · rw [if_pos c_135] at hf
          refine lv_lconst (v := 0) hx hb dX3_setting_138 (by decide) ?_
          refine lv_goto (tgt := 143) hx hb dX3_setting_139 (by decide) ?_
          exact J_c143 τ (0 : Int64) H locs ls hf hP hD hS (lv_sub hl [] rfl)
    rw [if_neg c_68_30] at hf
    by_cases c_68_31 : (((F_X1_field a0 (16 : Int32) (3 : Int32)) <<< ((3 : Int32) &&& 31)) ||| (F_X1_field a0 (5 : Int32) (3 : Int32))) = 31
    · rw [if_pos c_68_31] at hf
      refine gk_in (k := 31) (tgt := 118) hx hb dX3_setting_68 c_68_31 (by decide) rfl (by decide) ?_
      refine lv_iload_n hx hb dX3_setting_118 rfl (lv_at hl 2 rfl) ?_
      refine lv_iconst (v := 2) hx hb dX3_setting_119 (by decide) ?_
      refine lv_iand hx hb dX3_setting_120 ?_
      refine lv_if_eq (tgt := 147) hx hb dX3_setting_121 (by decide) (fun c_121 => ?_) (fun c_121 => ?_)
      · rw [if_pos c_121] at hf
        refine lv_iconst (v := 1) hx hb dX3_setting_147 (by decide) ?_
        exact hend true τ H locs 148 ls hf hP hD hS dX3_setting_148
      · rw [if_neg c_121] at hf
        refine lv_aload_n hx hb dX3_setting_124 rfl (lv_at hl 0 rfl) ?_
        refine fg_X3_state S hK hP tf_X3_9 dX3_setting_125 ?_
        refine lv_bipush (v := 45) hx hb dX3_setting_128 (by decide) ?_
        refine lv_iload_n hx hb dX3_setting_130 rfl (lv_at hl 1 rfl) ?_
        refine lv_iconst (v := 5) hx hb dX3_setting_131 (by decide) ?_
        refine k_X1_isOne (a0 := a0) (a1 := (5 : Int32)) S tl_X3_49 ⟨Nat.le_of_ble_eq_true rfl, Nat.le_of_ble_eq_true rfl⟩ hl.1 (Nat.le_of_ble_eq_true rfl) dX3_setting_132 ?_
        refine gz_eq (tgt := 142) hx hb dX3_setting_135 (by decide) (fun c_135 => ?_) (fun c_135 => ?_)
        · rw [if_neg c_135] at hf
          refine lv_lconst (v := 1) hx hb dX3_setting_142 (by decide) ?_
          exact J_c143 τ (1 : Int64) H locs ls hf hP hD hS (lv_sub hl [] rfl)
        · rw [if_pos c_135] at hf
          refine lv_lconst (v := 0) hx hb dX3_setting_138 (by decide) ?_
          refine lv_goto (tgt := 143) hx hb dX3_setting_139 (by decide) ?_
          exact J_c143 τ (0 : Int64) H locs ls hf hP hD hS (lv_sub hl [] rfl)
    rw [if_neg c_68_31] at hf
    refine lv_lookup (tgt := 149) (off := 81) hx hb dX3_setting_68 (by decide) ((lv_osw (a := 5) c_68_5 rfl).trans ((lv_osw (a := 30) c_68_30 rfl).trans ((lv_osw (a := 31) c_68_31 rfl).trans (rfl)))) (by decide) ?_
    refine lv_iconst (v := 0) hx hb dX3_setting_149 (by decide) ?_
    exact hend false τ H locs 150 ls hf hP hD hS dX3_setting_150
  unfold F_X3_setting at hf
  refine lv_iload_n hx hb dX3_setting_0 rfl (lv_at hl 1 rfl) ?_
  refine lv_bipush (v := 19) hx hb dX3_setting_1 (by decide) ?_
  refine lv_iushr (v := (j_iushr a0 (19 : Int32))) hx hb dX3_setting_3 rfl ?_
  refine lv_sipush (v := 6816) hx hb dX3_setting_4 (by decide) ?_
  refine lv_icmp_ne (tgt := 42) hx hb dX3_setting_7 (by decide) (fun c_7 => ?_) (fun c_7 => ?_)
  · rw [if_neg c_7] at hf
    refine lv_iconst (v := 0) hx hb dX3_setting_42 (by decide) ?_
    exact hend false σ H locs 43 ls hf hP hD hS dX3_setting_43
  · rw [if_pos c_7] at hf
    refine lv_iload_n hx hb dX3_setting_10 rfl (lv_at hl 1 rfl) ?_
    refine lv_bipush (v := 12) hx hb dX3_setting_11 (by decide) ?_
    refine lv_iconst (v := 4) hx hb dX3_setting_13 (by decide) ?_
    refine k_X1_field (a0 := a0) (a1 := (12 : Int32)) (a2 := (4 : Int32)) S tl_X3_15 ⟨Nat.le_of_ble_eq_true rfl, Nat.le_of_ble_eq_true rfl⟩ hl.1 (Nat.le_of_ble_eq_true rfl) dX3_setting_14 ?_
    refine lv_iconst (v := 4) hx hb dX3_setting_17 (by decide) ?_
    refine lv_icmp_ne (tgt := 42) hx hb dX3_setting_18 (by decide) (fun c_18 => ?_) (fun c_18 => ?_)
    · rw [if_neg c_18] at hf
      refine lv_iconst (v := 0) hx hb dX3_setting_42 (by decide) ?_
      exact hend false σ H locs 43 ls hf hP hD hS dX3_setting_43
    · rw [if_pos c_18] at hf
      refine lv_iload_n hx hb dX3_setting_21 rfl (lv_at hl 1 rfl) ?_
      refine lv_iconst (v := 0) hx hb dX3_setting_22 (by decide) ?_
      refine lv_iconst (v := 5) hx hb dX3_setting_23 (by decide) ?_
      refine k_X1_field (a0 := a0) (a1 := (0 : Int32)) (a2 := (5 : Int32)) S tl_X3_15 ⟨Nat.le_of_ble_eq_true rfl, Nat.le_of_ble_eq_true rfl⟩ hl.1 (Nat.le_of_ble_eq_true rfl) dX3_setting_24 ?_
      refine lv_bipush (v := 31) hx hb dX3_setting_27 (by decide) ?_
      refine lv_icmp_ne (tgt := 42) hx hb dX3_setting_29 (by decide) (fun c_29 => ?_) (fun c_29 => ?_)
      · rw [if_neg c_29] at hf
        refine lv_iconst (v := 0) hx hb dX3_setting_42 (by decide) ?_
        exact hend false σ H locs 43 ls hf hP hD hS dX3_setting_43
      · rw [if_pos c_29] at hf
        refine lv_aload_n hx hb dX3_setting_32 rfl (lv_at hl 0 rfl) ?_
        refine fg_X3_state S hK hP tf_X3_9 dX3_setting_33 ?_
        refine k_X8_level S hK hP tl_X3_33 ⟨Nat.le_of_ble_eq_true rfl, Nat.le_of_ble_eq_true rfl⟩ hl.1 (Nat.le_of_ble_eq_true rfl) dX3_setting_36 ?_
        refine lv_if_ne (tgt := 44) hx hb dX3_setting_39 (by decide) (fun c_39 => ?_) (fun c_39 => ?_)
        · rw [if_neg c_39] at hf
          refine lv_iload_n hx hb dX3_setting_44 rfl (lv_at hl 1 rfl) ?_
          refine lv_bipush (v := 8) hx hb dX3_setting_45 (by decide) ?_
          refine lv_iconst (v := 4) hx hb dX3_setting_47 (by decide) ?_
          refine k_X1_field (a0 := a0) (a1 := (8 : Int32)) (a2 := (4 : Int32)) S tl_X3_15 ⟨Nat.le_of_ble_eq_true rfl, Nat.le_of_ble_eq_true rfl⟩ hl.1 (Nat.le_of_ble_eq_true rfl) dX3_setting_48 ?_
          refine lv_istore_n (lv' := [(2, .int (F_X1_field a0 (8 : Int32) (4 : Int32))), (0, .ref (r 12)), (1, .int a0)]) hx hb dX3_setting_51 rfl hl (by decide) rfl (fun ls hl => ?_)
          exact J_c52 σ (F_X1_field a0 (8 : Int32) (4 : Int32)) H locs ls hf hP hD hS (lv_sub hl [1, 2, 0] rfl)
        · rw [if_pos c_39] at hf
          refine lv_iconst (v := 0) hx hb dX3_setting_42 (by decide) ?_
          exact hend false σ H locs 43 ls hf hP hD hS dX3_setting_43
theorem k_X3_setting {p : Program} {l : Launch} {e : Env} {R : Room} {s : State} {m : MethodId} {args : Array Value} {below : List Frame} {meth : Method} {c : Code} {H : Heap} {locs : List Loc} {Q : State → Prop} {cc : ByteArray} {pc : Nat} {ls : Array Slot} {rest : List Value} {own : String} {index nL : Nat} {A : Nat → Prop} {z : Cx} {r : Nat → Nat} {σ : XS} {a0 : Int32} (S : CallFix p m c cc nL s args tbG own) (hK : va_K z.1 vwCl (cxT z) s) (hA : ∀ q, s.heap.size ≤ q → A q) (hP : va_P z.1 vwCl (xW z r σ) H) (hD : va_D A (xW z r σ)) (hS : va_S A s.heap H locs) (hl : Cond.methodLink own index yX3_setting ∈ tbG) (hR : 1 + 1 ≤ R.frames ∧ 8 + (3 + 11) + 23 ≤ R.locals) (hsz : ls.size = nL) (hcat : (rest.map fun v => v.category).sum ≤ 8) (hdg : decode cc pc = .ok (.invokevirtual index, 3)) (kk : ∀ (H : Heap) (locs : List Loc), va_P z.1 vwCl (xW z r (F_X3_setting σ a0).2) H → va_D A (xW z r (F_X3_setting σ a0).2) → va_S A s.heap H locs → W p l e R s m args below meth c H locs 0 0 Q (F0 m (pc + 3) ls (.int (zB (F_X3_setting σ a0).1) :: rest))) : W p l e R s m args below meth c H locs 0 0 Q (F0 m pc ls (.int a0 :: .ref (r 12) :: rest)) :=
  km (As := [.int a0]) (ov := some (.int (zB (F_X3_setting σ a0).1))) (w' := xW z r (F_X3_setting σ a0).2) (q0 := 12) (ci := 2) S hK hA hP hD hS (c_X3_setting l z r σ a0 H.size _ rfl) ⟨tb_cB 1 S.2.2.2.2 tc_X3_setting ti_X3 hl rfl rfl (by decide +kernel) hR, S.2.2.2.2 _ tm_X3_setting, S.2.2.2.2 _ te_X3_setting⟩ rfl rfl rfl rfl hsz rfl hcat hdg kk

theorem dX9_signAndZero_0 : decode cX9_signAndZero 0 = .ok (.lload_n 0, 1) := by decide +kernel
theorem dX9_signAndZero_1 : decode cX9_signAndZero 1 = .ok (.iload_n 2, 1) := by decide +kernel
theorem dX9_signAndZero_2 : decode cX9_signAndZero 2 = .ok (.invokestatic 21, 3) := by decide +kernel
theorem dX9_signAndZero_5 : decode cX9_signAndZero 5 = .ok (.iconst 1, 1) := by decide +kernel
theorem dX9_signAndZero_6 : decode cX9_signAndZero 6 = .ok (.isub, 1) := by decide +kernel
theorem dX9_signAndZero_7 : decode cX9_signAndZero 7 = .ok (.lushr, 1) := by decide +kernel
theorem dX9_signAndZero_8 : decode cX9_signAndZero 8 = .ok (.lconst 1, 1) := by decide +kernel
theorem dX9_signAndZero_9 : decode cX9_signAndZero 9 = .ok (.land, 1) := by decide +kernel
theorem dX9_signAndZero_10 : decode cX9_signAndZero 10 = .ok (.iconst 3, 1) := by decide +kernel
theorem dX9_signAndZero_11 : decode cX9_signAndZero 11 = .ok (.lshl, 1) := by decide +kernel
theorem dX9_signAndZero_12 : decode cX9_signAndZero 12 = .ok (.lload_n 0, 1) := by decide +kernel
theorem dX9_signAndZero_13 : decode cX9_signAndZero 13 = .ok (.lconst 0, 1) := by decide +kernel
theorem dX9_signAndZero_14 : decode cX9_signAndZero 14 = .ok (.lcmp, 1) := by decide +kernel
theorem dX9_signAndZero_15 : decode cX9_signAndZero 15 = .ok (.ifCond .ne 7, 3) := by decide +kernel
theorem dX9_signAndZero_18 : decode cX9_signAndZero 18 = .ok (.iconst 4, 1) := by decide +kernel
theorem dX9_signAndZero_19 : decode cX9_signAndZero 19 = .ok (.goto 4, 3) := by decide +kernel
theorem dX9_signAndZero_22 : decode cX9_signAndZero 22 = .ok (.iconst 0, 1) := by decide +kernel
theorem dX9_signAndZero_23 : decode cX9_signAndZero 23 = .ok (.i2l, 1) := by decide +kernel
theorem dX9_signAndZero_24 : decode cX9_signAndZero 24 = .ok (.lor, 1) := by decide +kernel
theorem dX9_signAndZero_25 : decode cX9_signAndZero 25 = .ok (.lreturn, 1) := by decide +kernel
def F_X9_signAndZero (a0 : Int64) (a1 : Bool) : Int64 := (if a0 = (0 : Int64) then ((j_lshl ((j_lushr a0 ((F_X1_width a1) - (1 : Int32))) &&& (1 : Int64)) (3 : Int32)) ||| (4 : Int32).toInt64) else ((j_lshl ((j_lushr a0 ((F_X1_width a1) - (1 : Int32))) &&& (1 : Int64)) (3 : Int32)) ||| (0 : Int32).toInt64))
set_option maxHeartbeats 4000000 in
set_option maxRecDepth 100000 in
theorem c_X9_signAndZero (l : Launch) (a0 : Int64) (a1 : Bool) (res : Int64) (hf : F_X9_signAndZero a0 a1 = res) : Met l yX9_signAndZero (wsC yX9_signAndZero cX9_signAndZero 3 (some .long)) { frames := 1, cells := 0, slots := 0, locals := 20 } (fun v _ => v = ([.long a0, .int (zB a1)] : List Value).toArray) (gS (some (.long res))) 0 0 (fun _ => False) := by
  refine mk_s_l (own := RX9) (by decide) rfl _ (Nat.le_of_ble_eq_true rfl) (fun p e s m below meth c H locs Q ls S hl hend => ?_)
  have hx := S.1
  have hb := S.2.1
  have hown := S.2.2.2.1
  have hts := S.2.2.2.2
  have hl : lv_has ls 3 [(0, .long a0), (2, .int (zB a1))] := hl
  unfold F_X9_signAndZero at hf
  refine lv_lload_n hx hb dX9_signAndZero_0 rfl (lv_at hl 0 rfl) ?_
  refine lv_iload_n hx hb dX9_signAndZero_1 rfl (lv_at hl 1 rfl) ?_
  refine k_X1_width (a0 := a1) S tl_X9_21 ⟨Nat.le_of_ble_eq_true rfl, Nat.le_of_ble_eq_true rfl⟩ hl.1 (Nat.le_of_ble_eq_true rfl) dX9_signAndZero_2 ?_
  refine lv_iconst (v := 1) hx hb dX9_signAndZero_5 (by decide) ?_
  refine lv_isub hx hb dX9_signAndZero_6 ?_
  refine lv_lushr (v := (j_lushr a0 ((F_X1_width a1) - (1 : Int32)))) hx hb dX9_signAndZero_7 rfl ?_
  refine lv_lconst (v := 1) hx hb dX9_signAndZero_8 (by decide) ?_
  refine lv_land hx hb dX9_signAndZero_9 ?_
  refine lv_iconst (v := 3) hx hb dX9_signAndZero_10 (by decide) ?_
  refine lv_lshl (v := (j_lshl ((j_lushr a0 ((F_X1_width a1) - (1 : Int32))) &&& (1 : Int64)) (3 : Int32))) hx hb dX9_signAndZero_11 rfl ?_
  refine lv_lload_n hx hb dX9_signAndZero_12 rfl (lv_at hl 0 rfl) ?_
  refine lv_lconst (v := 0) hx hb dX9_signAndZero_13 (by decide) ?_
  refine gl_ne (tgt := 22) hx hb dX9_signAndZero_14 dX9_signAndZero_15 (by decide) (fun c_14 => ?_) (fun c_14 => ?_)
  · rw [if_neg c_14] at hf
    refine lv_iconst (v := 0) hx hb dX9_signAndZero_22 (by decide) ?_
    refine lv_i2l hx hb dX9_signAndZero_23 rfl ?_
    refine lv_lor hx hb dX9_signAndZero_24 ?_
    exact hend ((j_lshl ((j_lushr a0 ((F_X1_width a1) - (1 : Int32))) &&& (1 : Int64)) (3 : Int32)) ||| (0 : Int32).toInt64) 25 ls hf dX9_signAndZero_25
  · rw [if_pos c_14] at hf
    refine lv_iconst (v := 4) hx hb dX9_signAndZero_18 (by decide) ?_
    refine lv_goto (tgt := 23) hx hb dX9_signAndZero_19 (by decide) ?_
    refine lv_i2l hx hb dX9_signAndZero_23 rfl ?_
    refine lv_lor hx hb dX9_signAndZero_24 ?_
    exact hend ((j_lshl ((j_lushr a0 ((F_X1_width a1) - (1 : Int32))) &&& (1 : Int64)) (3 : Int32)) ||| (4 : Int32).toInt64) 25 ls hf dX9_signAndZero_25
theorem k_X9_signAndZero {p : Program} {l : Launch} {e : Env} {R : Room} {s : State} {m : MethodId} {args : Array Value} {below : List Frame} {meth : Method} {c : Code} {H : Heap} {locs : List Loc} {Q : State → Prop} {cc : ByteArray} {pc : Nat} {ls : Array Slot} {rest : List Value} {own : String} {index nL : Nat} {a0 : Int64} {a1 : Bool} (S : CallFix p m c cc nL s args tbG own) (hl : Cond.methodLink own index yX9_signAndZero ∈ tbG) (hR : 1 + 1 ≤ R.frames ∧ 8 + (3 + 11) + 20 ≤ R.locals) (hsz : ls.size = nL) (hcat : (rest.map fun v => v.category).sum ≤ 8) (hdg : decode cc pc = .ok (.invokestatic index, 3)) (kk : W p l e R s m args below meth c H locs 0 0 Q (F0 m (pc + 3) ls (.long (F_X9_signAndZero a0 a1) :: rest))) : W p l e R s m args below meth c H locs 0 0 Q (F0 m pc ls (.int (zB a1) :: .long a0 :: rest)) :=
  ks (As := [.long a0, .int (zB a1)]) (ov := some (.long (F_X9_signAndZero a0 a1))) S (c_X9_signAndZero l a0 a1 _ rfl) ⟨tb_cB 2 S.2.2.2.2 tc_X9_signAndZero ti_X9 hl rfl rfl (by decide +kernel) hR, S.2.2.2.2 _ ts_X9_signAndZero⟩ rfl hsz rfl hcat hdg kk

theorem dX9_sum_0 : decode cX9_sum 0 = .ok (.lload_n 1, 1) := by decide +kernel
theorem dX9_sum_1 : decode cX9_sum 1 = .ok (.iload 6, 2) := by decide +kernel
theorem dX9_sum_3 : decode cX9_sum 3 = .ok (.invokestatic 13, 3) := by decide +kernel
theorem dX9_sum_6 : decode cX9_sum 6 = .ok (.lstore 8, 2) := by decide +kernel
theorem dX9_sum_8 : decode cX9_sum 8 = .ok (.iload 5, 2) := by decide +kernel
theorem dX9_sum_10 : decode cX9_sum 10 = .ok (.ifCond .eq 11, 3) := by decide +kernel
theorem dX9_sum_13 : decode cX9_sum 13 = .ok (.lload_n 3, 1) := by decide +kernel
theorem dX9_sum_14 : decode cX9_sum 14 = .ok (.ldc2_w 19, 3) := by decide +kernel
theorem dX9_sum_17 : decode cX9_sum 17 = .ok (.lxor, 1) := by decide +kernel
theorem dX9_sum_18 : decode cX9_sum 18 = .ok (.goto 4, 3) := by decide +kernel
theorem dX9_sum_21 : decode cX9_sum 21 = .ok (.lload_n 3, 1) := by decide +kernel
theorem dX9_sum_22 : decode cX9_sum 22 = .ok (.iload 6, 2) := by decide +kernel
theorem dX9_sum_24 : decode cX9_sum 24 = .ok (.invokestatic 13, 3) := by decide +kernel
theorem dX9_sum_27 : decode cX9_sum 27 = .ok (.lstore 10, 2) := by decide +kernel
theorem dX9_sum_29 : decode cX9_sum 29 = .ok (.lload 8, 2) := by decide +kernel
theorem dX9_sum_31 : decode cX9_sum 31 = .ok (.lload 10, 2) := by decide +kernel
theorem dX9_sum_33 : decode cX9_sum 33 = .ok (.ladd, 1) := by decide +kernel
theorem dX9_sum_34 : decode cX9_sum 34 = .ok (.iload 5, 2) := by decide +kernel
theorem dX9_sum_36 : decode cX9_sum 36 = .ok (.ifCond .eq 7, 3) := by decide +kernel
theorem dX9_sum_39 : decode cX9_sum 39 = .ok (.iconst 1, 1) := by decide +kernel
theorem dX9_sum_40 : decode cX9_sum 40 = .ok (.goto 4, 3) := by decide +kernel
theorem dX9_sum_43 : decode cX9_sum 43 = .ok (.iconst 0, 1) := by decide +kernel
theorem dX9_sum_44 : decode cX9_sum 44 = .ok (.i2l, 1) := by decide +kernel
theorem dX9_sum_45 : decode cX9_sum 45 = .ok (.ladd, 1) := by decide +kernel
theorem dX9_sum_46 : decode cX9_sum 46 = .ok (.iload 6, 2) := by decide +kernel
theorem dX9_sum_48 : decode cX9_sum 48 = .ok (.invokestatic 13, 3) := by decide +kernel
theorem dX9_sum_51 : decode cX9_sum 51 = .ok (.lstore 12, 2) := by decide +kernel
theorem dX9_sum_53 : decode cX9_sum 53 = .ok (.iload 7, 2) := by decide +kernel
theorem dX9_sum_55 : decode cX9_sum 55 = .ok (.ifCond .eq 80, 3) := by decide +kernel
theorem dX9_sum_58 : decode cX9_sum 58 = .ok (.iload 6, 2) := by decide +kernel
theorem dX9_sum_60 : decode cX9_sum 60 = .ok (.invokestatic 21, 3) := by decide +kernel
theorem dX9_sum_63 : decode cX9_sum 63 = .ok (.iconst 1, 1) := by decide +kernel
theorem dX9_sum_64 : decode cX9_sum 64 = .ok (.isub, 1) := by decide +kernel
theorem dX9_sum_65 : decode cX9_sum 65 = .ok (.istore 14, 2) := by decide +kernel
theorem dX9_sum_67 : decode cX9_sum 67 = .ok (.lload 8, 2) := by decide +kernel
theorem dX9_sum_69 : decode cX9_sum 69 = .ok (.lload 10, 2) := by decide +kernel
theorem dX9_sum_71 : decode cX9_sum 71 = .ok (.land, 1) := by decide +kernel
theorem dX9_sum_72 : decode cX9_sum 72 = .ok (.lload 8, 2) := by decide +kernel
theorem dX9_sum_74 : decode cX9_sum 74 = .ok (.lload 10, 2) := by decide +kernel
theorem dX9_sum_76 : decode cX9_sum 76 = .ok (.lor, 1) := by decide +kernel
theorem dX9_sum_77 : decode cX9_sum 77 = .ok (.lload 12, 2) := by decide +kernel
theorem dX9_sum_79 : decode cX9_sum 79 = .ok (.ldc2_w 19, 3) := by decide +kernel
theorem dX9_sum_82 : decode cX9_sum 82 = .ok (.lxor, 1) := by decide +kernel
theorem dX9_sum_83 : decode cX9_sum 83 = .ok (.land, 1) := by decide +kernel
theorem dX9_sum_84 : decode cX9_sum 84 = .ok (.lor, 1) := by decide +kernel
theorem dX9_sum_85 : decode cX9_sum 85 = .ok (.iload 14, 2) := by decide +kernel
theorem dX9_sum_87 : decode cX9_sum 87 = .ok (.lushr, 1) := by decide +kernel
theorem dX9_sum_88 : decode cX9_sum 88 = .ok (.lconst 1, 1) := by decide +kernel
theorem dX9_sum_89 : decode cX9_sum 89 = .ok (.land, 1) := by decide +kernel
theorem dX9_sum_90 : decode cX9_sum 90 = .ok (.lstore 15, 2) := by decide +kernel
theorem dX9_sum_92 : decode cX9_sum 92 = .ok (.lload 8, 2) := by decide +kernel
theorem dX9_sum_94 : decode cX9_sum 94 = .ok (.lload 12, 2) := by decide +kernel
theorem dX9_sum_96 : decode cX9_sum 96 = .ok (.lxor, 1) := by decide +kernel
theorem dX9_sum_97 : decode cX9_sum 97 = .ok (.lload 10, 2) := by decide +kernel
theorem dX9_sum_99 : decode cX9_sum 99 = .ok (.lload 12, 2) := by decide +kernel
theorem dX9_sum_101 : decode cX9_sum 101 = .ok (.lxor, 1) := by decide +kernel
theorem dX9_sum_102 : decode cX9_sum 102 = .ok (.land, 1) := by decide +kernel
theorem dX9_sum_103 : decode cX9_sum 103 = .ok (.iload 14, 2) := by decide +kernel
theorem dX9_sum_105 : decode cX9_sum 105 = .ok (.lushr, 1) := by decide +kernel
theorem dX9_sum_106 : decode cX9_sum 106 = .ok (.lconst 1, 1) := by decide +kernel
theorem dX9_sum_107 : decode cX9_sum 107 = .ok (.land, 1) := by decide +kernel
theorem dX9_sum_108 : decode cX9_sum 108 = .ok (.lstore 17, 2) := by decide +kernel
theorem dX9_sum_110 : decode cX9_sum 110 = .ok (.aload_n 0, 1) := by decide +kernel
theorem dX9_sum_111 : decode cX9_sum 111 = .ok (.getfield 7, 3) := by decide +kernel
theorem dX9_sum_114 : decode cX9_sum 114 = .ok (.bipush 42, 2) := by decide +kernel
theorem dX9_sum_116 : decode cX9_sum 116 = .ok (.lload 12, 2) := by decide +kernel
theorem dX9_sum_118 : decode cX9_sum 118 = .ok (.iload 6, 2) := by decide +kernel
theorem dX9_sum_120 : decode cX9_sum 120 = .ok (.invokestatic 27, 3) := by decide +kernel
theorem dX9_sum_123 : decode cX9_sum 123 = .ok (.lload 15, 2) := by decide +kernel
theorem dX9_sum_125 : decode cX9_sum 125 = .ok (.iconst 1, 1) := by decide +kernel
theorem dX9_sum_126 : decode cX9_sum 126 = .ok (.lshl, 1) := by decide +kernel
theorem dX9_sum_127 : decode cX9_sum 127 = .ok (.lor, 1) := by decide +kernel
theorem dX9_sum_128 : decode cX9_sum 128 = .ok (.lload 17, 2) := by decide +kernel
theorem dX9_sum_130 : decode cX9_sum 130 = .ok (.lor, 1) := by decide +kernel
theorem dX9_sum_131 : decode cX9_sum 131 = .ok (.invokevirtual 30, 3) := by decide +kernel
theorem dX9_sum_134 : decode cX9_sum 134 = .ok (.pop, 1) := by decide +kernel
theorem dX9_sum_135 : decode cX9_sum 135 = .ok (.lload 12, 2) := by decide +kernel
theorem dX9_sum_137 : decode cX9_sum 137 = .ok (.lreturn, 1) := by decide +kernel
def F_X9_sum_c134 (τ : XS) (a0 : Int64) (a1 : Int64) (a2 : Bool) (a3 : Bool) (a4 : Bool) (w12 : Int64) (s0 : Bool) : Int64 × XS := (w12, τ)
def F_X9_sum_c67 (τ : XS) (a0 : Int64) (a1 : Int64) (a2 : Bool) (a3 : Bool) (a4 : Bool) (w8 : Int64) (w10 : Int64) (w12 : Int64) (w14 : Int32) : Int64 × XS := (F_X9_sum_c134 (F_X8_putPart τ (42 : Int32) (((F_X9_signAndZero w12 a3) ||| (j_lshl ((j_lushr ((w8 &&& w10) ||| ((w8 ||| w10) &&& (w12 ^^^ (-1 : Int64)))) w14) &&& (1 : Int64)) (1 : Int32))) ||| ((j_lushr ((w8 ^^^ w12) &&& (w10 ^^^ w12)) w14) &&& (1 : Int64)))).2 a0 a1 a2 a3 a4 w12 (F_X8_putPart τ (42 : Int32) (((F_X9_signAndZero w12 a3) ||| (j_lshl ((j_lushr ((w8 &&& w10) ||| ((w8 ||| w10) &&& (w12 ^^^ (-1 : Int64)))) w14) &&& (1 : Int64)) (1 : Int32))) ||| ((j_lushr ((w8 ^^^ w12) &&& (w10 ^^^ w12)) w14) &&& (1 : Int64)))).1)
def F_X9_sum_c53 (τ : XS) (a0 : Int64) (a1 : Int64) (a2 : Bool) (a3 : Bool) (a4 : Bool) (w8 : Int64) (w10 : Int64) (w12 : Int64) : Int64 × XS := (if a4 = true then (F_X9_sum_c67 τ a0 a1 a2 a3 a4 w8 w10 w12 ((F_X1_width a3) - (1 : Int32))) else (w12, τ))
def F_X9_sum_c44 (τ : XS) (a0 : Int64) (a1 : Int64) (a2 : Bool) (a3 : Bool) (a4 : Bool) (w8 : Int64) (w10 : Int64) (s0 : Int64) (s1 : Bool) : Int64 × XS := (F_X9_sum_c53 τ a0 a1 a2 a3 a4 w8 w10 (F_X1_narrow (s0 + (zB s1).toInt64) a3))
def F_X9_sum_c29 (τ : XS) (a0 : Int64) (a1 : Int64) (a2 : Bool) (a3 : Bool) (a4 : Bool) (w8 : Int64) (w10 : Int64) : Int64 × XS := (if a2 = true then (F_X9_sum_c44 τ a0 a1 a2 a3 a4 w8 w10 (w8 + w10) true) else (F_X9_sum_c44 τ a0 a1 a2 a3 a4 w8 w10 (w8 + w10) false))
def F_X9_sum_c22 (τ : XS) (a0 : Int64) (a1 : Int64) (a2 : Bool) (a3 : Bool) (a4 : Bool) (w8 : Int64) (s0 : Int64) : Int64 × XS := (F_X9_sum_c29 τ a0 a1 a2 a3 a4 w8 (F_X1_narrow s0 a3))
def F_X9_sum_c8 (τ : XS) (a0 : Int64) (a1 : Int64) (a2 : Bool) (a3 : Bool) (a4 : Bool) (w8 : Int64) : Int64 × XS := (if a2 = true then (F_X9_sum_c22 τ a0 a1 a2 a3 a4 w8 (a1 ^^^ (-1 : Int64))) else (F_X9_sum_c22 τ a0 a1 a2 a3 a4 w8 a1))
def F_X9_sum (σ : XS) (a0 : Int64) (a1 : Int64) (a2 : Bool) (a3 : Bool) (a4 : Bool) : Int64 × XS := (F_X9_sum_c8 σ a0 a1 a2 a3 a4 (F_X1_narrow a0 a3))
set_option maxHeartbeats 4000000 in
set_option maxRecDepth 100000 in
theorem c_X9_sum (l : Launch) (z : Cx) (r : Nat → Nat) (σ : XS) (a0 : Int64) (a1 : Int64) (a2 : Bool) (a3 : Bool) (a4 : Bool) (sz : Nat) (res : Int64 × XS) (hf : F_X9_sum σ a0 a1 a2 a3 a4 = res) : Met l yX9_sum (wsC yX9_sum cX9_sum 19 (some .long)) { frames := 2, cells := 0, slots := 0, locals := 42 } (mPc z (xW z r σ) sz [.ref (r 7), .long a0, .long a1, .int (zB a2), .int (zB a3), .int (zB a4)]) (gM z (va_A (xW z r σ) sz) (some (.long res.1)) (xW z r res.2)) 0 0 (va_A (xW z r σ) sz) := by
  refine mk_m_l (own := RX9) (wf := xW z r) (by decide) rfl sz _ (Nat.le_of_ble_eq_true rfl) (fun p e s m below meth c A H locs Q ls S hK hA hP hD hS hl hend => ?_)
  have hx := S.1
  have hb := S.2.1
  have hown := S.2.2.2.1
  have hts := S.2.2.2.2
  have hl : lv_has ls 19 [(0, .ref (r 7)), (1, .long a0), (3, .long a1), (5, .int (zB a2)), (6, .int (zB a3)), (7, .int (zB a4))] := hl
  have J_c134 : ∀ (τ : XS) (w12 : Int64) (s0 : Bool) (H : Heap) (locs : List Loc) (ls : Array Slot), F_X9_sum_c134 τ a0 a1 a2 a3 a4 w12 s0 = res → va_P z.1 vwCl (xW z r τ) H → va_D A (xW z r τ) → va_S A s.heap H locs → lv_has ls 19 [(12, .long w12)] → W p l e { frames := 2, cells := 0, slots := 0, locals := 42 } s m ([.ref (r 7), .long a0, .long a1, .int (zB a2), .int (zB a3), .int (zB a4)] : List Value).toArray below meth c H locs 0 0 Q (F0 m 134 ls [.int (zB s0)]) := by
    intro τ w12 s0 H locs ls hf hP hD hS hl
    unfold F_X9_sum_c134 at hf
    refine lv_pop hx hb dX9_sum_134 rfl ?_
    refine lv_lload hx hb dX9_sum_135 (lv_at hl 0 rfl) ?_
    exact hend w12 τ H locs 137 ls hf hP hD hS dX9_sum_137
  have J_c67 : ∀ (τ : XS) (w8 : Int64) (w10 : Int64) (w12 : Int64) (w14 : Int32) (H : Heap) (locs : List Loc) (ls : Array Slot), F_X9_sum_c67 τ a0 a1 a2 a3 a4 w8 w10 w12 w14 = res → va_P z.1 vwCl (xW z r τ) H → va_D A (xW z r τ) → va_S A s.heap H locs → lv_has ls 19 [(0, .ref (r 7)), (6, .int (zB a3)), (8, .long w8), (10, .long w10), (12, .long w12), (14, .int w14)] → W p l e { frames := 2, cells := 0, slots := 0, locals := 42 } s m ([.ref (r 7), .long a0, .long a1, .int (zB a2), .int (zB a3), .int (zB a4)] : List Value).toArray below meth c H locs 0 0 Q (F0 m 67 ls []) := by
    intro τ w8 w10 w12 w14 H locs ls hf hP hD hS hl
    unfold F_X9_sum_c67 at hf
    refine lv_lload hx hb dX9_sum_67 (lv_at hl 2 rfl) ?_
    refine lv_lload hx hb dX9_sum_69 (lv_at hl 3 rfl) ?_
    refine lv_land hx hb dX9_sum_71 ?_
    refine lv_lload hx hb dX9_sum_72 (lv_at hl 2 rfl) ?_
    refine lv_lload hx hb dX9_sum_74 (lv_at hl 3 rfl) ?_
    refine lv_lor hx hb dX9_sum_76 ?_
    refine lv_lload hx hb dX9_sum_77 (lv_at hl 4 rfl) ?_
    refine lv_ldc2 (v := -1) hx hb hown (hts _ tk_X9_19) dX9_sum_79 ?_
    refine lv_lxor hx hb dX9_sum_82 ?_
    refine lv_land hx hb dX9_sum_83 ?_
    refine lv_lor hx hb dX9_sum_84 ?_
    refine lv_iload hx hb dX9_sum_85 (lv_at hl 5 rfl) ?_
    refine lv_lushr (v := (j_lushr ((w8 &&& w10) ||| ((w8 ||| w10) &&& (w12 ^^^ (-1 : Int64)))) w14)) hx hb dX9_sum_87 rfl ?_
    refine lv_lconst (v := 1) hx hb dX9_sum_88 (by decide) ?_
    refine lv_land hx hb dX9_sum_89 ?_
    refine lv_lstore (lv' := [(15, .long ((j_lushr ((w8 &&& w10) ||| ((w8 ||| w10) &&& (w12 ^^^ (-1 : Int64)))) w14) &&& (1 : Int64))), (0, .ref (r 7)), (6, .int (zB a3)), (8, .long w8), (10, .long w10), (12, .long w12), (14, .int w14)]) hx hb dX9_sum_90 hl (by decide) rfl (fun ls hl => ?_)
    refine lv_lload hx hb dX9_sum_92 (lv_at hl 3 rfl) ?_
    refine lv_lload hx hb dX9_sum_94 (lv_at hl 5 rfl) ?_
    refine lv_lxor hx hb dX9_sum_96 ?_
    refine lv_lload hx hb dX9_sum_97 (lv_at hl 4 rfl) ?_
    refine lv_lload hx hb dX9_sum_99 (lv_at hl 5 rfl) ?_
    refine lv_lxor hx hb dX9_sum_101 ?_
    refine lv_land hx hb dX9_sum_102 ?_
    refine lv_iload hx hb dX9_sum_103 (lv_at hl 6 rfl) ?_
    refine lv_lushr (v := (j_lushr ((w8 ^^^ w12) &&& (w10 ^^^ w12)) w14)) hx hb dX9_sum_105 rfl ?_
    refine lv_lconst (v := 1) hx hb dX9_sum_106 (by decide) ?_
    refine lv_land hx hb dX9_sum_107 ?_
    refine lv_lstore (lv' := [(17, .long ((j_lushr ((w8 ^^^ w12) &&& (w10 ^^^ w12)) w14) &&& (1 : Int64))), (15, .long ((j_lushr ((w8 &&& w10) ||| ((w8 ||| w10) &&& (w12 ^^^ (-1 : Int64)))) w14) &&& (1 : Int64))), (0, .ref (r 7)), (6, .int (zB a3)), (8, .long w8), (10, .long w10), (12, .long w12), (14, .int w14)]) hx hb dX9_sum_108 hl (by decide) rfl (fun ls hl => ?_)
    refine lv_aload_n hx hb dX9_sum_110 rfl (lv_at hl 2 rfl) ?_
    refine fg_X9_state S hK hP tf_X9_7 dX9_sum_111 ?_
    refine lv_bipush (v := 42) hx hb dX9_sum_114 (by decide) ?_
    refine lv_lload hx hb dX9_sum_116 (lv_at hl 6 rfl) ?_
    refine lv_iload hx hb dX9_sum_118 (lv_at hl 3 rfl) ?_
    refine k_X9_signAndZero (a0 := w12) (a1 := a3) S tl_X9_27 ⟨Nat.le_of_ble_eq_true rfl, Nat.le_of_ble_eq_true rfl⟩ hl.1 (Nat.le_of_ble_eq_true rfl) dX9_sum_120 ?_
    refine lv_lload hx hb dX9_sum_123 (lv_at hl 1 rfl) ?_
    refine lv_iconst (v := 1) hx hb dX9_sum_125 (by decide) ?_
    refine lv_lshl (v := (j_lshl ((j_lushr ((w8 &&& w10) ||| ((w8 ||| w10) &&& (w12 ^^^ (-1 : Int64)))) w14) &&& (1 : Int64)) (1 : Int32))) hx hb dX9_sum_126 rfl ?_
    refine lv_lor hx hb dX9_sum_127 ?_
    refine lv_lload hx hb dX9_sum_128 (lv_at hl 0 rfl) ?_
    refine lv_lor hx hb dX9_sum_130 ?_
    refine k_X8_putPart (a0 := (42 : Int32)) (a1 := (((F_X9_signAndZero w12 a3) ||| (j_lshl ((j_lushr ((w8 &&& w10) ||| ((w8 ||| w10) &&& (w12 ^^^ (-1 : Int64)))) w14) &&& (1 : Int64)) (1 : Int32))) ||| ((j_lushr ((w8 ^^^ w12) &&& (w10 ^^^ w12)) w14) &&& (1 : Int64)))) S hK hA hP hD hS tl_X9_30 ⟨Nat.le_of_ble_eq_true rfl, Nat.le_of_ble_eq_true rfl⟩ hl.1 (Nat.le_of_ble_eq_true rfl) dX9_sum_131 (fun H locs hP hD hS => ?_)
    exact J_c134 (F_X8_putPart τ (42 : Int32) (((F_X9_signAndZero w12 a3) ||| (j_lshl ((j_lushr ((w8 &&& w10) ||| ((w8 ||| w10) &&& (w12 ^^^ (-1 : Int64)))) w14) &&& (1 : Int64)) (1 : Int32))) ||| ((j_lushr ((w8 ^^^ w12) &&& (w10 ^^^ w12)) w14) &&& (1 : Int64)))).2 w12 (F_X8_putPart τ (42 : Int32) (((F_X9_signAndZero w12 a3) ||| (j_lshl ((j_lushr ((w8 &&& w10) ||| ((w8 ||| w10) &&& (w12 ^^^ (-1 : Int64)))) w14) &&& (1 : Int64)) (1 : Int32))) ||| ((j_lushr ((w8 ^^^ w12) &&& (w10 ^^^ w12)) w14) &&& (1 : Int64)))).1 H locs ls hf hP hD hS (lv_sub hl [6] rfl)
  have J_c53 : ∀ (τ : XS) (w8 : Int64) (w10 : Int64) (w12 : Int64) (H : Heap) (locs : List Loc) (ls : Array Slot), F_X9_sum_c53 τ a0 a1 a2 a3 a4 w8 w10 w12 = res → va_P z.1 vwCl (xW z r τ) H → va_D A (xW z r τ) → va_S A s.heap H locs → lv_has ls 19 [(0, .ref (r 7)), (6, .int (zB a3)), (7, .int (zB a4)), (8, .long w8), (10, .long w10), (12, .long w12)] → W p l e { frames := 2, cells := 0, slots := 0, locals := 42 } s m ([.ref (r 7), .long a0, .long a1, .int (zB a2), .int (zB a3), .int (zB a4)] : List Value).toArray below meth c H locs 0 0 Q (F0 m 53 ls []) := by
    intro τ w8 w10 w12 H locs ls hf hP hD hS hl
    unfold F_X9_sum_c53 at hf
    refine lv_iload hx hb dX9_sum_53 (lv_at hl 2 rfl) ?_
    refine gz_eq (tgt := 135) hx hb dX9_sum_55 (by decide) (fun c_55 => ?_) (fun c_55 => ?_)
    · rw [if_neg c_55] at hf
      refine lv_lload hx hb dX9_sum_135 (lv_at hl 5 rfl) ?_
      exact hend w12 τ H locs 137 ls hf hP hD hS dX9_sum_137
    · rw [if_pos c_55] at hf
      refine lv_iload hx hb dX9_sum_58 (lv_at hl 1 rfl) ?_
      refine k_X1_width (a0 := a3) S tl_X9_21 ⟨Nat.le_of_ble_eq_true rfl, Nat.le_of_ble_eq_true rfl⟩ hl.1 (Nat.le_of_ble_eq_true rfl) dX9_sum_60 ?_
      refine lv_iconst (v := 1) hx hb dX9_sum_63 (by decide) ?_
      refine lv_isub hx hb dX9_sum_64 ?_
      refine lv_istore (lv' := [(14, .int ((F_X1_width a3) - (1 : Int32))), (0, .ref (r 7)), (6, .int (zB a3)), (7, .int (zB a4)), (8, .long w8), (10, .long w10), (12, .long w12)]) hx hb dX9_sum_65 hl (by decide) rfl (fun ls hl => ?_)
      exact J_c67 τ w8 w10 w12 ((F_X1_width a3) - (1 : Int32)) H locs ls hf hP hD hS (lv_sub hl [1, 2, 4, 5, 6, 0] rfl)
  have J_c44 : ∀ (τ : XS) (w8 : Int64) (w10 : Int64) (s0 : Int64) (s1 : Bool) (H : Heap) (locs : List Loc) (ls : Array Slot), F_X9_sum_c44 τ a0 a1 a2 a3 a4 w8 w10 s0 s1 = res → va_P z.1 vwCl (xW z r τ) H → va_D A (xW z r τ) → va_S A s.heap H locs → lv_has ls 19 [(0, .ref (r 7)), (6, .int (zB a3)), (7, .int (zB a4)), (8, .long w8), (10, .long w10)] → W p l e { frames := 2, cells := 0, slots := 0, locals := 42 } s m ([.ref (r 7), .long a0, .long a1, .int (zB a2), .int (zB a3), .int (zB a4)] : List Value).toArray below meth c H locs 0 0 Q (F0 m 44 ls [.int (zB s1), .long s0]) := by
    intro τ w8 w10 s0 s1 H locs ls hf hP hD hS hl
    unfold F_X9_sum_c44 at hf
    refine lv_i2l hx hb dX9_sum_44 rfl ?_
    refine lv_ladd hx hb dX9_sum_45 ?_
    refine lv_iload hx hb dX9_sum_46 (lv_at hl 1 rfl) ?_
    refine k_X1_narrow (a0 := (s0 + (zB s1).toInt64)) (a1 := a3) S tl_X9_13 ⟨Nat.le_of_ble_eq_true rfl, Nat.le_of_ble_eq_true rfl⟩ hl.1 (Nat.le_of_ble_eq_true rfl) dX9_sum_48 ?_
    refine lv_lstore (lv' := [(12, .long (F_X1_narrow (s0 + (zB s1).toInt64) a3)), (0, .ref (r 7)), (6, .int (zB a3)), (7, .int (zB a4)), (8, .long w8), (10, .long w10)]) hx hb dX9_sum_51 hl (by decide) rfl (fun ls hl => ?_)
    exact J_c53 τ w8 w10 (F_X1_narrow (s0 + (zB s1).toInt64) a3) H locs ls hf hP hD hS (lv_sub hl [1, 2, 3, 4, 5, 0] rfl)
  have J_c29 : ∀ (τ : XS) (w8 : Int64) (w10 : Int64) (H : Heap) (locs : List Loc) (ls : Array Slot), F_X9_sum_c29 τ a0 a1 a2 a3 a4 w8 w10 = res → va_P z.1 vwCl (xW z r τ) H → va_D A (xW z r τ) → va_S A s.heap H locs → lv_has ls 19 [(0, .ref (r 7)), (5, .int (zB a2)), (6, .int (zB a3)), (7, .int (zB a4)), (8, .long w8), (10, .long w10)] → W p l e { frames := 2, cells := 0, slots := 0, locals := 42 } s m ([.ref (r 7), .long a0, .long a1, .int (zB a2), .int (zB a3), .int (zB a4)] : List Value).toArray below meth c H locs 0 0 Q (F0 m 29 ls []) := by
    intro τ w8 w10 H locs ls hf hP hD hS hl
    unfold F_X9_sum_c29 at hf
    refine lv_lload hx hb dX9_sum_29 (lv_at hl 4 rfl) ?_
    refine lv_lload hx hb dX9_sum_31 (lv_at hl 5 rfl) ?_
    refine lv_ladd hx hb dX9_sum_33 ?_
    refine lv_iload hx hb dX9_sum_34 (lv_at hl 1 rfl) ?_
    refine gz_eq (tgt := 43) hx hb dX9_sum_36 (by decide) (fun c_36 => ?_) (fun c_36 => ?_)
    · rw [if_neg c_36] at hf
      refine lv_iconst (v := 0) hx hb dX9_sum_43 (by decide) ?_
      exact J_c44 τ w8 w10 (w8 + w10) false H locs ls hf hP hD hS (lv_sub hl [0, 2, 3, 4, 5] rfl)
    · rw [if_pos c_36] at hf
      refine lv_iconst (v := 1) hx hb dX9_sum_39 (by decide) ?_
      refine lv_goto (tgt := 44) hx hb dX9_sum_40 (by decide) ?_
      exact J_c44 τ w8 w10 (w8 + w10) true H locs ls hf hP hD hS (lv_sub hl [0, 2, 3, 4, 5] rfl)
  have J_c22 : ∀ (τ : XS) (w8 : Int64) (s0 : Int64) (H : Heap) (locs : List Loc) (ls : Array Slot), F_X9_sum_c22 τ a0 a1 a2 a3 a4 w8 s0 = res → va_P z.1 vwCl (xW z r τ) H → va_D A (xW z r τ) → va_S A s.heap H locs → lv_has ls 19 [(0, .ref (r 7)), (5, .int (zB a2)), (6, .int (zB a3)), (7, .int (zB a4)), (8, .long w8)] → W p l e { frames := 2, cells := 0, slots := 0, locals := 42 } s m ([.ref (r 7), .long a0, .long a1, .int (zB a2), .int (zB a3), .int (zB a4)] : List Value).toArray below meth c H locs 0 0 Q (F0 m 22 ls [.long s0]) := by
    intro τ w8 s0 H locs ls hf hP hD hS hl
    unfold F_X9_sum_c22 at hf
    refine lv_iload hx hb dX9_sum_22 (lv_at hl 2 rfl) ?_
    refine k_X1_narrow (a0 := s0) (a1 := a3) S tl_X9_13 ⟨Nat.le_of_ble_eq_true rfl, Nat.le_of_ble_eq_true rfl⟩ hl.1 (Nat.le_of_ble_eq_true rfl) dX9_sum_24 ?_
    refine lv_lstore (lv' := [(10, .long (F_X1_narrow s0 a3)), (0, .ref (r 7)), (5, .int (zB a2)), (6, .int (zB a3)), (7, .int (zB a4)), (8, .long w8)]) hx hb dX9_sum_27 hl (by decide) rfl (fun ls hl => ?_)
    exact J_c29 τ w8 (F_X1_narrow s0 a3) H locs ls hf hP hD hS (lv_sub hl [1, 2, 3, 4, 5, 0] rfl)
  have J_c8 : ∀ (τ : XS) (w8 : Int64) (H : Heap) (locs : List Loc) (ls : Array Slot), F_X9_sum_c8 τ a0 a1 a2 a3 a4 w8 = res → va_P z.1 vwCl (xW z r τ) H → va_D A (xW z r τ) → va_S A s.heap H locs → lv_has ls 19 [(0, .ref (r 7)), (3, .long a1), (5, .int (zB a2)), (6, .int (zB a3)), (7, .int (zB a4)), (8, .long w8)] → W p l e { frames := 2, cells := 0, slots := 0, locals := 42 } s m ([.ref (r 7), .long a0, .long a1, .int (zB a2), .int (zB a3), .int (zB a4)] : List Value).toArray below meth c H locs 0 0 Q (F0 m 8 ls []) := by
    intro τ w8 H locs ls hf hP hD hS hl
    unfold F_X9_sum_c8 at hf
    refine lv_iload hx hb dX9_sum_8 (lv_at hl 2 rfl) ?_
    refine gz_eq (tgt := 21) hx hb dX9_sum_10 (by decide) (fun c_10 => ?_) (fun c_10 => ?_)
    · rw [if_neg c_10] at hf
      refine lv_lload_n hx hb dX9_sum_21 rfl (lv_at hl 1 rfl) ?_
      exact J_c22 τ w8 a1 H locs ls hf hP hD hS (lv_sub hl [0, 2, 3, 4, 5] rfl)
    · rw [if_pos c_10] at hf
      refine lv_lload_n hx hb dX9_sum_13 rfl (lv_at hl 1 rfl) ?_
      refine lv_ldc2 (v := -1) hx hb hown (hts _ tk_X9_19) dX9_sum_14 ?_
      refine lv_lxor hx hb dX9_sum_17 ?_
      refine lv_goto (tgt := 22) hx hb dX9_sum_18 (by decide) ?_
      exact J_c22 τ w8 (a1 ^^^ (-1 : Int64)) H locs ls hf hP hD hS (lv_sub hl [0, 2, 3, 4, 5] rfl)
  unfold F_X9_sum at hf
  refine lv_lload_n hx hb dX9_sum_0 rfl (lv_at hl 1 rfl) ?_
  refine lv_iload hx hb dX9_sum_1 (lv_at hl 4 rfl) ?_
  refine k_X1_narrow (a0 := a0) (a1 := a3) S tl_X9_13 ⟨Nat.le_of_ble_eq_true rfl, Nat.le_of_ble_eq_true rfl⟩ hl.1 (Nat.le_of_ble_eq_true rfl) dX9_sum_3 ?_
  refine lv_lstore (lv' := [(8, .long (F_X1_narrow a0 a3)), (0, .ref (r 7)), (1, .long a0), (3, .long a1), (5, .int (zB a2)), (6, .int (zB a3)), (7, .int (zB a4))]) hx hb dX9_sum_6 hl (by decide) rfl (fun ls hl => ?_)
  exact J_c8 σ (F_X1_narrow a0 a3) H locs ls hf hP hD hS (lv_sub hl [1, 3, 4, 5, 6, 0] rfl)
theorem k_X9_sum {p : Program} {l : Launch} {e : Env} {R : Room} {s : State} {m : MethodId} {args : Array Value} {below : List Frame} {meth : Method} {c : Code} {H : Heap} {locs : List Loc} {Q : State → Prop} {cc : ByteArray} {pc : Nat} {ls : Array Slot} {rest : List Value} {own : String} {index nL : Nat} {A : Nat → Prop} {z : Cx} {r : Nat → Nat} {σ : XS} {a0 : Int64} {a1 : Int64} {a2 : Bool} {a3 : Bool} {a4 : Bool} (S : CallFix p m c cc nL s args tbG own) (hK : va_K z.1 vwCl (cxT z) s) (hA : ∀ q, s.heap.size ≤ q → A q) (hP : va_P z.1 vwCl (xW z r σ) H) (hD : va_D A (xW z r σ)) (hS : va_S A s.heap H locs) (hl : Cond.methodLink own index yX9_sum ∈ tbG) (hR : 2 + 1 ≤ R.frames ∧ 8 + (19 + 11) + 42 ≤ R.locals) (hsz : ls.size = nL) (hcat : (rest.map fun v => v.category).sum ≤ 8) (hdg : decode cc pc = .ok (.invokevirtual index, 3)) (kk : ∀ (H : Heap) (locs : List Loc), va_P z.1 vwCl (xW z r (F_X9_sum σ a0 a1 a2 a3 a4).2) H → va_D A (xW z r (F_X9_sum σ a0 a1 a2 a3 a4).2) → va_S A s.heap H locs → W p l e R s m args below meth c H locs 0 0 Q (F0 m (pc + 3) ls (.long (F_X9_sum σ a0 a1 a2 a3 a4).1 :: rest))) : W p l e R s m args below meth c H locs 0 0 Q (F0 m pc ls (.int (zB a4) :: .int (zB a3) :: .int (zB a2) :: .long a1 :: .long a0 :: .ref (r 7) :: rest)) :=
  km (As := [.long a0, .long a1, .int (zB a2), .int (zB a3), .int (zB a4)]) (ov := some (.long (F_X9_sum σ a0 a1 a2 a3 a4).1)) (w' := xW z r (F_X9_sum σ a0 a1 a2 a3 a4).2) (q0 := 7) (ci := 8) S hK hA hP hD hS (c_X9_sum l z r σ a0 a1 a2 a3 a4 H.size _ rfl) ⟨tb_cB 5 S.2.2.2.2 tc_X9_sum ti_X9 hl rfl rfl (by decide +kernel) hR, S.2.2.2.2 _ tm_X9_sum, S.2.2.2.2 _ te_X9_sum⟩ rfl rfl rfl rfl hsz rfl hcat hdg kk

theorem dX5_number_0 : decode cX5_number 0 = .ok (.iload_n 1, 1) := by decide +kernel
theorem dX5_number_1 : decode cX5_number 1 = .ok (.bipush 23, 2) := by decide +kernel
theorem dX5_number_3 : decode cX5_number 3 = .ok (.invokestatic 17, 3) := by decide +kernel
theorem dX5_number_6 : decode cX5_number 6 = .ok (.ifCond .eq 5, 3) := by decide +kernel
theorem dX5_number_9 : decode cX5_number 9 = .ok (.iconst 0, 1) := by decide +kernel
theorem dX5_number_10 : decode cX5_number 10 = .ok (.ireturn, 1) := by decide +kernel
theorem dX5_number_11 : decode cX5_number 11 = .ok (.iload_n 1, 1) := by decide +kernel
theorem dX5_number_12 : decode cX5_number 12 = .ok (.bipush 29, 2) := by decide +kernel
theorem dX5_number_14 : decode cX5_number 14 = .ok (.invokestatic 17, 3) := by decide +kernel
theorem dX5_number_17 : decode cX5_number 17 = .ok (.istore_n 2, 1) := by decide +kernel
theorem dX5_number_18 : decode cX5_number 18 = .ok (.aload_n 0, 1) := by decide +kernel
theorem dX5_number_19 : decode cX5_number 19 = .ok (.getfield 7, 3) := by decide +kernel
theorem dX5_number_22 : decode cX5_number 22 = .ok (.iload_n 1, 1) := by decide +kernel
theorem dX5_number_23 : decode cX5_number 23 = .ok (.iconst 5, 1) := by decide +kernel
theorem dX5_number_24 : decode cX5_number 24 = .ok (.iconst 5, 1) := by decide +kernel
theorem dX5_number_25 : decode cX5_number 25 = .ok (.invokestatic 23, 3) := by decide +kernel
theorem dX5_number_28 : decode cX5_number 28 = .ok (.invokevirtual 27, 3) := by decide +kernel
theorem dX5_number_31 : decode cX5_number 31 = .ok (.lstore_n 3, 1) := by decide +kernel
theorem dX5_number_32 : decode cX5_number 32 = .ok (.iload_n 1, 1) := by decide +kernel
theorem dX5_number_33 : decode cX5_number 33 = .ok (.bipush 10, 2) := by decide +kernel
theorem dX5_number_35 : decode cX5_number 35 = .ok (.bipush 12, 2) := by decide +kernel
theorem dX5_number_37 : decode cX5_number 37 = .ok (.invokestatic 23, 3) := by decide +kernel
theorem dX5_number_40 : decode cX5_number 40 = .ok (.i2l, 1) := by decide +kernel
theorem dX5_number_41 : decode cX5_number 41 = .ok (.iload_n 1, 1) := by decide +kernel
theorem dX5_number_42 : decode cX5_number 42 = .ok (.bipush 22, 2) := by decide +kernel
theorem dX5_number_44 : decode cX5_number 44 = .ok (.invokestatic 17, 3) := by decide +kernel
theorem dX5_number_47 : decode cX5_number 47 = .ok (.ifCond .eq 8, 3) := by decide +kernel
theorem dX5_number_50 : decode cX5_number 50 = .ok (.bipush 12, 2) := by decide +kernel
theorem dX5_number_52 : decode cX5_number 52 = .ok (.goto 4, 3) := by decide +kernel
theorem dX5_number_55 : decode cX5_number 55 = .ok (.iconst 0, 1) := by decide +kernel
theorem dX5_number_56 : decode cX5_number 56 = .ok (.lshl, 1) := by decide +kernel
theorem dX5_number_57 : decode cX5_number 57 = .ok (.lstore 5, 2) := by decide +kernel
theorem dX5_number_59 : decode cX5_number 59 = .ok (.aload_n 0, 1) := by decide +kernel
theorem dX5_number_60 : decode cX5_number 60 = .ok (.getfield 13, 3) := by decide +kernel
theorem dX5_number_63 : decode cX5_number 63 = .ok (.lload_n 3, 1) := by decide +kernel
theorem dX5_number_64 : decode cX5_number 64 = .ok (.lload 5, 2) := by decide +kernel
theorem dX5_number_66 : decode cX5_number 66 = .ok (.iload_n 1, 1) := by decide +kernel
theorem dX5_number_67 : decode cX5_number 67 = .ok (.bipush 30, 2) := by decide +kernel
theorem dX5_number_69 : decode cX5_number 69 = .ok (.invokestatic 17, 3) := by decide +kernel
theorem dX5_number_72 : decode cX5_number 72 = .ok (.iload_n 1, 1) := by decide +kernel
theorem dX5_number_73 : decode cX5_number 73 = .ok (.ifCond .ge 7, 3) := by decide +kernel
theorem dX5_number_76 : decode cX5_number 76 = .ok (.iconst 1, 1) := by decide +kernel
theorem dX5_number_77 : decode cX5_number 77 = .ok (.goto 4, 3) := by decide +kernel
theorem dX5_number_80 : decode cX5_number 80 = .ok (.iconst 0, 1) := by decide +kernel
theorem dX5_number_81 : decode cX5_number 81 = .ok (.iload_n 2, 1) := by decide +kernel
theorem dX5_number_82 : decode cX5_number 82 = .ok (.invokevirtual 33, 3) := by decide +kernel
theorem dX5_number_85 : decode cX5_number 85 = .ok (.lstore 7, 2) := by decide +kernel
theorem dX5_number_87 : decode cX5_number 87 = .ok (.iload_n 2, 1) := by decide +kernel
theorem dX5_number_88 : decode cX5_number 88 = .ok (.ifCond .eq 21, 3) := by decide +kernel
theorem dX5_number_91 : decode cX5_number 91 = .ok (.aload_n 0, 1) := by decide +kernel
theorem dX5_number_92 : decode cX5_number 92 = .ok (.getfield 7, 3) := by decide +kernel
theorem dX5_number_95 : decode cX5_number 95 = .ok (.iload_n 1, 1) := by decide +kernel
theorem dX5_number_96 : decode cX5_number 96 = .ok (.iconst 0, 1) := by decide +kernel
theorem dX5_number_97 : decode cX5_number 97 = .ok (.iconst 5, 1) := by decide +kernel
theorem dX5_number_98 : decode cX5_number 98 = .ok (.invokestatic 23, 3) := by decide +kernel
theorem dX5_number_101 : decode cX5_number 101 = .ok (.lload 7, 2) := by decide +kernel
theorem dX5_number_103 : decode cX5_number 103 = .ok (.invokevirtual 39, 3) := by decide +kernel
theorem dX5_number_106 : decode cX5_number 106 = .ok (.goto 18, 3) := by decide +kernel
theorem dX5_number_109 : decode cX5_number 109 = .ok (.aload_n 0, 1) := by decide +kernel
theorem dX5_number_110 : decode cX5_number 110 = .ok (.getfield 7, 3) := by decide +kernel
theorem dX5_number_113 : decode cX5_number 113 = .ok (.iload_n 1, 1) := by decide +kernel
theorem dX5_number_114 : decode cX5_number 114 = .ok (.iconst 0, 1) := by decide +kernel
theorem dX5_number_115 : decode cX5_number 115 = .ok (.iconst 5, 1) := by decide +kernel
theorem dX5_number_116 : decode cX5_number 116 = .ok (.invokestatic 23, 3) := by decide +kernel
theorem dX5_number_119 : decode cX5_number 119 = .ok (.lload 7, 2) := by decide +kernel
theorem dX5_number_121 : decode cX5_number 121 = .ok (.invokevirtual 43, 3) := by decide +kernel
theorem dX5_number_124 : decode cX5_number 124 = .ok (.iconst 1, 1) := by decide +kernel
theorem dX5_number_125 : decode cX5_number 125 = .ok (.ireturn, 1) := by decide +kernel
def F_X5_number_c124 (τ : XS) (a0 : Int32) : Bool × XS := (true, τ)
def F_X5_number_c106 (τ : XS) (a0 : Int32) : Bool × XS := (true, τ)
def F_X5_number_c87 (τ : XS) (a0 : Int32) (w2 : Bool) (w7 : Int64) : Bool × XS := (if w2 = true then (F_X5_number_c106 (F_X8_putRegister τ (F_X1_field a0 (0 : Int32) (5 : Int32)) w7) a0) else (F_X5_number_c124 (F_X8_putRegisterOrStack τ (F_X1_field a0 (0 : Int32) (5 : Int32)) w7) a0))
def F_X5_number_c81 (τ : XS) (a0 : Int32) (w2 : Bool) (s1 : Int64) (s2 : Int64) (s3 : Bool) (s4 : Bool) : Bool × XS := (F_X5_number_c87 (F_X9_sum τ s1 s2 s3 s4 w2).2 a0 w2 (F_X9_sum τ s1 s2 s3 s4 w2).1)
def F_X5_number_c56 (τ : XS) (a0 : Int32) (w2 : Bool) (w3 : Int64) (s0 : Int64) (s1 : Int32) : Bool × XS := (if 0 ≤ a0 then (F_X5_number_c81 τ a0 w2 w3 (j_lshl s0 s1) (F_X1_isOne a0 (30 : Int32)) false) else (F_X5_number_c81 τ a0 w2 w3 (j_lshl s0 s1) (F_X1_isOne a0 (30 : Int32)) true))
def F_X5_number_c18 (τ : XS) (a0 : Int32) (w2 : Bool) : Bool × XS := (if (F_X1_isOne a0 (22 : Int32)) = true then (F_X5_number_c56 τ a0 w2 (F_X8_registerOrStack τ (F_X1_field a0 (5 : Int32) (5 : Int32))) (F_X1_field a0 (10 : Int32) (12 : Int32)).toInt64 (12 : Int32)) else (F_X5_number_c56 τ a0 w2 (F_X8_registerOrStack τ (F_X1_field a0 (5 : Int32) (5 : Int32))) (F_X1_field a0 (10 : Int32) (12 : Int32)).toInt64 (0 : Int32)))
def F_X5_number (σ : XS) (a0 : Int32) : Bool × XS := (if (F_X1_isOne a0 (23 : Int32)) = true then (false, σ) else (F_X5_number_c18 σ a0 (F_X1_isOne a0 (29 : Int32))))
set_option maxHeartbeats 4000000 in
set_option maxRecDepth 100000 in
theorem c_X5_number (l : Launch) (z : Cx) (r : Nat → Nat) (σ : XS) (a0 : Int32) (sz : Nat) (res : Bool × XS) (hf : F_X5_number σ a0 = res) : Met l yX5_number (wsC yX5_number cX5_number 9 (some .boolean)) { frames := 3, cells := 0, slots := 0, locals := 80 } (mPc z (xW z r σ) sz [.ref (r 8), .int a0]) (gM z (va_A (xW z r σ) sz) (some (.int (zB res.1))) (xW z r res.2)) 0 0 (va_A (xW z r σ) sz) := by
  refine mk_m_z (own := RX5) (wf := xW z r) (by decide) rfl sz _ (Nat.le_of_ble_eq_true rfl) (fun p e s m below meth c A H locs Q ls S hK hA hP hD hS hl hend => ?_)
  have hx := S.1
  have hb := S.2.1
  have hown := S.2.2.2.1
  have hts := S.2.2.2.2
  have hl : lv_has ls 9 [(0, .ref (r 8)), (1, .int a0)] := hl
  have J_c124 : ∀ (τ : XS) (H : Heap) (locs : List Loc) (ls : Array Slot), F_X5_number_c124 τ a0 = res → va_P z.1 vwCl (xW z r τ) H → va_D A (xW z r τ) → va_S A s.heap H locs → lv_has ls 9 [] → W p l e { frames := 3, cells := 0, slots := 0, locals := 80 } s m ([.ref (r 8), .int a0] : List Value).toArray below meth c H locs 0 0 Q (F0 m 124 ls []) := by
    intro τ H locs ls hf hP hD hS hl
    unfold F_X5_number_c124 at hf
    refine lv_iconst (v := 1) hx hb dX5_number_124 (by decide) ?_
    exact hend true τ H locs 125 ls hf hP hD hS dX5_number_125
  have J_c106 : ∀ (τ : XS) (H : Heap) (locs : List Loc) (ls : Array Slot), F_X5_number_c106 τ a0 = res → va_P z.1 vwCl (xW z r τ) H → va_D A (xW z r τ) → va_S A s.heap H locs → lv_has ls 9 [] → W p l e { frames := 3, cells := 0, slots := 0, locals := 80 } s m ([.ref (r 8), .int a0] : List Value).toArray below meth c H locs 0 0 Q (F0 m 106 ls []) := by
    intro τ H locs ls hf hP hD hS hl
    unfold F_X5_number_c106 at hf
    refine lv_goto (tgt := 124) hx hb dX5_number_106 (by decide) ?_
    refine lv_iconst (v := 1) hx hb dX5_number_124 (by decide) ?_
    exact hend true τ H locs 125 ls hf hP hD hS dX5_number_125
  have J_c87 : ∀ (τ : XS) (w2 : Bool) (w7 : Int64) (H : Heap) (locs : List Loc) (ls : Array Slot), F_X5_number_c87 τ a0 w2 w7 = res → va_P z.1 vwCl (xW z r τ) H → va_D A (xW z r τ) → va_S A s.heap H locs → lv_has ls 9 [(0, .ref (r 8)), (1, .int a0), (2, .int (zB w2)), (7, .long w7)] → W p l e { frames := 3, cells := 0, slots := 0, locals := 80 } s m ([.ref (r 8), .int a0] : List Value).toArray below meth c H locs 0 0 Q (F0 m 87 ls []) := by
    intro τ w2 w7 H locs ls hf hP hD hS hl
    unfold F_X5_number_c87 at hf
    refine lv_iload_n hx hb dX5_number_87 rfl (lv_at hl 2 rfl) ?_
    refine gz_eq (tgt := 109) hx hb dX5_number_88 (by decide) (fun c_88 => ?_) (fun c_88 => ?_)
    · rw [if_neg c_88] at hf
      refine lv_aload_n hx hb dX5_number_109 rfl (lv_at hl 0 rfl) ?_
      refine fg_X5_state S hK hP tf_X5_7 dX5_number_110 ?_
      refine lv_iload_n hx hb dX5_number_113 rfl (lv_at hl 1 rfl) ?_
      refine lv_iconst (v := 0) hx hb dX5_number_114 (by decide) ?_
      refine lv_iconst (v := 5) hx hb dX5_number_115 (by decide) ?_
      refine k_X1_field (a0 := a0) (a1 := (0 : Int32)) (a2 := (5 : Int32)) S tl_X5_23 ⟨Nat.le_of_ble_eq_true rfl, Nat.le_of_ble_eq_true rfl⟩ hl.1 (Nat.le_of_ble_eq_true rfl) dX5_number_116 ?_
      refine lv_lload hx hb dX5_number_119 (lv_at hl 3 rfl) ?_
      refine k_X8_putRegisterOrStack (a0 := (F_X1_field a0 (0 : Int32) (5 : Int32))) (a1 := w7) S hK hA hP hD hS tl_X5_43 ⟨Nat.le_of_ble_eq_true rfl, Nat.le_of_ble_eq_true rfl⟩ hl.1 (Nat.le_of_ble_eq_true rfl) dX5_number_121 (fun H locs hP hD hS => ?_)
      exact J_c124 (F_X8_putRegisterOrStack τ (F_X1_field a0 (0 : Int32) (5 : Int32)) w7) H locs ls hf hP hD hS (lv_sub hl [] rfl)
    · rw [if_pos c_88] at hf
      refine lv_aload_n hx hb dX5_number_91 rfl (lv_at hl 0 rfl) ?_
      refine fg_X5_state S hK hP tf_X5_7 dX5_number_92 ?_
      refine lv_iload_n hx hb dX5_number_95 rfl (lv_at hl 1 rfl) ?_
      refine lv_iconst (v := 0) hx hb dX5_number_96 (by decide) ?_
      refine lv_iconst (v := 5) hx hb dX5_number_97 (by decide) ?_
      refine k_X1_field (a0 := a0) (a1 := (0 : Int32)) (a2 := (5 : Int32)) S tl_X5_23 ⟨Nat.le_of_ble_eq_true rfl, Nat.le_of_ble_eq_true rfl⟩ hl.1 (Nat.le_of_ble_eq_true rfl) dX5_number_98 ?_
      refine lv_lload hx hb dX5_number_101 (lv_at hl 3 rfl) ?_
      refine k_X8_putRegister (a0 := (F_X1_field a0 (0 : Int32) (5 : Int32))) (a1 := w7) S hK hA hP hD hS tl_X5_39 ⟨Nat.le_of_ble_eq_true rfl, Nat.le_of_ble_eq_true rfl⟩ hl.1 (Nat.le_of_ble_eq_true rfl) dX5_number_103 (fun H locs hP hD hS => ?_)
      exact J_c106 (F_X8_putRegister τ (F_X1_field a0 (0 : Int32) (5 : Int32)) w7) H locs ls hf hP hD hS (lv_sub hl [] rfl)
  have J_c81 : ∀ (τ : XS) (w2 : Bool) (s1 : Int64) (s2 : Int64) (s3 : Bool) (s4 : Bool) (H : Heap) (locs : List Loc) (ls : Array Slot), F_X5_number_c81 τ a0 w2 s1 s2 s3 s4 = res → va_P z.1 vwCl (xW z r τ) H → va_D A (xW z r τ) → va_S A s.heap H locs → lv_has ls 9 [(0, .ref (r 8)), (1, .int a0), (2, .int (zB w2))] → W p l e { frames := 3, cells := 0, slots := 0, locals := 80 } s m ([.ref (r 8), .int a0] : List Value).toArray below meth c H locs 0 0 Q (F0 m 81 ls [.int (zB s4), .int (zB s3), .long s2, .long s1, .ref (r 7)]) := by
    intro τ w2 s1 s2 s3 s4 H locs ls hf hP hD hS hl
    unfold F_X5_number_c81 at hf
    refine lv_iload_n hx hb dX5_number_81 rfl (lv_at hl 2 rfl) ?_
    refine k_X9_sum (a0 := s1) (a1 := s2) (a2 := s3) (a3 := s4) (a4 := w2) S hK hA hP hD hS tl_X5_33 ⟨Nat.le_of_ble_eq_true rfl, Nat.le_of_ble_eq_true rfl⟩ hl.1 (Nat.le_of_ble_eq_true rfl) dX5_number_82 (fun H locs hP hD hS => ?_)
    refine lv_lstore (lv' := [(7, .long (F_X9_sum τ s1 s2 s3 s4 w2).1), (0, .ref (r 8)), (1, .int a0), (2, .int (zB w2))]) hx hb dX5_number_85 hl (by decide) rfl (fun ls hl => ?_)
    exact J_c87 (F_X9_sum τ s1 s2 s3 s4 w2).2 w2 (F_X9_sum τ s1 s2 s3 s4 w2).1 H locs ls hf hP hD hS (lv_sub hl [1, 2, 3, 0] rfl)
  have J_c56 : ∀ (τ : XS) (w2 : Bool) (w3 : Int64) (s0 : Int64) (s1 : Int32) (H : Heap) (locs : List Loc) (ls : Array Slot), F_X5_number_c56 τ a0 w2 w3 s0 s1 = res → va_P z.1 vwCl (xW z r τ) H → va_D A (xW z r τ) → va_S A s.heap H locs → lv_has ls 9 [(0, .ref (r 8)), (1, .int a0), (2, .int (zB w2)), (3, .long w3)] → W p l e { frames := 3, cells := 0, slots := 0, locals := 80 } s m ([.ref (r 8), .int a0] : List Value).toArray below meth c H locs 0 0 Q (F0 m 56 ls [.int s1, .long s0]) := by
    intro τ w2 w3 s0 s1 H locs ls hf hP hD hS hl
    unfold F_X5_number_c56 at hf
    refine lv_lshl (v := (j_lshl s0 s1)) hx hb dX5_number_56 rfl ?_
    refine lv_lstore (lv' := [(5, .long (j_lshl s0 s1)), (0, .ref (r 8)), (1, .int a0), (2, .int (zB w2)), (3, .long w3)]) hx hb dX5_number_57 hl (by decide) rfl (fun ls hl => ?_)
    refine lv_aload_n hx hb dX5_number_59 rfl (lv_at hl 1 rfl) ?_
    refine fg_X5_sums S hK hP tf_X5_13 dX5_number_60 ?_
    refine lv_lload_n hx hb dX5_number_63 rfl (lv_at hl 4 rfl) ?_
    refine lv_lload hx hb dX5_number_64 (lv_at hl 0 rfl) ?_
    refine lv_iload_n hx hb dX5_number_66 rfl (lv_at hl 2 rfl) ?_
    refine lv_bipush (v := 30) hx hb dX5_number_67 (by decide) ?_
    refine k_X1_isOne (a0 := a0) (a1 := (30 : Int32)) S tl_X5_17 ⟨Nat.le_of_ble_eq_true rfl, Nat.le_of_ble_eq_true rfl⟩ hl.1 (Nat.le_of_ble_eq_true rfl) dX5_number_69 ?_
    refine lv_iload_n hx hb dX5_number_72 rfl (lv_at hl 2 rfl) ?_
    refine lv_if_ge (tgt := 80) hx hb dX5_number_73 (by decide) (fun c_73 => ?_) (fun c_73 => ?_)
    · rw [if_pos c_73] at hf
      refine lv_iconst (v := 0) hx hb dX5_number_80 (by decide) ?_
      exact J_c81 τ w2 w3 (j_lshl s0 s1) (F_X1_isOne a0 (30 : Int32)) false H locs ls hf hP hD hS (lv_sub hl [1, 2, 3] rfl)
    · rw [if_neg c_73] at hf
      refine lv_iconst (v := 1) hx hb dX5_number_76 (by decide) ?_
      refine lv_goto (tgt := 81) hx hb dX5_number_77 (by decide) ?_
      exact J_c81 τ w2 w3 (j_lshl s0 s1) (F_X1_isOne a0 (30 : Int32)) true H locs ls hf hP hD hS (lv_sub hl [1, 2, 3] rfl)
  have J_c18 : ∀ (τ : XS) (w2 : Bool) (H : Heap) (locs : List Loc) (ls : Array Slot), F_X5_number_c18 τ a0 w2 = res → va_P z.1 vwCl (xW z r τ) H → va_D A (xW z r τ) → va_S A s.heap H locs → lv_has ls 9 [(0, .ref (r 8)), (1, .int a0), (2, .int (zB w2))] → W p l e { frames := 3, cells := 0, slots := 0, locals := 80 } s m ([.ref (r 8), .int a0] : List Value).toArray below meth c H locs 0 0 Q (F0 m 18 ls []) := by
    intro τ w2 H locs ls hf hP hD hS hl
    unfold F_X5_number_c18 at hf
    refine lv_aload_n hx hb dX5_number_18 rfl (lv_at hl 0 rfl) ?_
    refine fg_X5_state S hK hP tf_X5_7 dX5_number_19 ?_
    refine lv_iload_n hx hb dX5_number_22 rfl (lv_at hl 1 rfl) ?_
    refine lv_iconst (v := 5) hx hb dX5_number_23 (by decide) ?_
    refine lv_iconst (v := 5) hx hb dX5_number_24 (by decide) ?_
    refine k_X1_field (a0 := a0) (a1 := (5 : Int32)) (a2 := (5 : Int32)) S tl_X5_23 ⟨Nat.le_of_ble_eq_true rfl, Nat.le_of_ble_eq_true rfl⟩ hl.1 (Nat.le_of_ble_eq_true rfl) dX5_number_25 ?_
    refine k_X8_registerOrStack (a0 := (F_X1_field a0 (5 : Int32) (5 : Int32))) S hK hP tl_X5_27 ⟨Nat.le_of_ble_eq_true rfl, Nat.le_of_ble_eq_true rfl⟩ hl.1 (Nat.le_of_ble_eq_true rfl) dX5_number_28 ?_
    refine lv_lstore_n (lv' := [(3, .long (F_X8_registerOrStack τ (F_X1_field a0 (5 : Int32) (5 : Int32)))), (0, .ref (r 8)), (1, .int a0), (2, .int (zB w2))]) hx hb dX5_number_31 rfl hl (by decide) rfl (fun ls hl => ?_)
    refine lv_iload_n hx hb dX5_number_32 rfl (lv_at hl 2 rfl) ?_
    refine lv_bipush (v := 10) hx hb dX5_number_33 (by decide) ?_
    refine lv_bipush (v := 12) hx hb dX5_number_35 (by decide) ?_
    refine k_X1_field (a0 := a0) (a1 := (10 : Int32)) (a2 := (12 : Int32)) S tl_X5_23 ⟨Nat.le_of_ble_eq_true rfl, Nat.le_of_ble_eq_true rfl⟩ hl.1 (Nat.le_of_ble_eq_true rfl) dX5_number_37 ?_
    refine lv_i2l hx hb dX5_number_40 rfl ?_
    refine lv_iload_n hx hb dX5_number_41 rfl (lv_at hl 2 rfl) ?_
    refine lv_bipush (v := 22) hx hb dX5_number_42 (by decide) ?_
    refine k_X1_isOne (a0 := a0) (a1 := (22 : Int32)) S tl_X5_17 ⟨Nat.le_of_ble_eq_true rfl, Nat.le_of_ble_eq_true rfl⟩ hl.1 (Nat.le_of_ble_eq_true rfl) dX5_number_44 ?_
    refine gz_eq (tgt := 55) hx hb dX5_number_47 (by decide) (fun c_47 => ?_) (fun c_47 => ?_)
    · rw [if_neg c_47] at hf
      refine lv_iconst (v := 0) hx hb dX5_number_55 (by decide) ?_
      exact J_c56 τ w2 (F_X8_registerOrStack τ (F_X1_field a0 (5 : Int32) (5 : Int32))) (F_X1_field a0 (10 : Int32) (12 : Int32)).toInt64 (0 : Int32) H locs ls hf hP hD hS (lv_sub hl [1, 2, 3, 0] rfl)
    · rw [if_pos c_47] at hf
      refine lv_bipush (v := 12) hx hb dX5_number_50 (by decide) ?_
      refine lv_goto (tgt := 56) hx hb dX5_number_52 (by decide) ?_
      exact J_c56 τ w2 (F_X8_registerOrStack τ (F_X1_field a0 (5 : Int32) (5 : Int32))) (F_X1_field a0 (10 : Int32) (12 : Int32)).toInt64 (12 : Int32) H locs ls hf hP hD hS (lv_sub hl [1, 2, 3, 0] rfl)
  unfold F_X5_number at hf
  refine lv_iload_n hx hb dX5_number_0 rfl (lv_at hl 1 rfl) ?_
  refine lv_bipush (v := 23) hx hb dX5_number_1 (by decide) ?_
  refine k_X1_isOne (a0 := a0) (a1 := (23 : Int32)) S tl_X5_17 ⟨Nat.le_of_ble_eq_true rfl, Nat.le_of_ble_eq_true rfl⟩ hl.1 (Nat.le_of_ble_eq_true rfl) dX5_number_3 ?_
  refine gz_eq (tgt := 11) hx hb dX5_number_6 (by decide) (fun c_6 => ?_) (fun c_6 => ?_)
  · rw [if_neg c_6] at hf
    refine lv_iload_n hx hb dX5_number_11 rfl (lv_at hl 1 rfl) ?_
    refine lv_bipush (v := 29) hx hb dX5_number_12 (by decide) ?_
    refine k_X1_isOne (a0 := a0) (a1 := (29 : Int32)) S tl_X5_17 ⟨Nat.le_of_ble_eq_true rfl, Nat.le_of_ble_eq_true rfl⟩ hl.1 (Nat.le_of_ble_eq_true rfl) dX5_number_14 ?_
    refine lv_istore_n (lv' := [(2, .int (zB (F_X1_isOne a0 (29 : Int32)))), (0, .ref (r 8)), (1, .int a0)]) hx hb dX5_number_17 rfl hl (by decide) rfl (fun ls hl => ?_)
    exact J_c18 σ (F_X1_isOne a0 (29 : Int32)) H locs ls hf hP hD hS (lv_sub hl [1, 2, 0] rfl)
  · rw [if_pos c_6] at hf
    refine lv_iconst (v := 0) hx hb dX5_number_9 (by decide) ?_
    exact hend false σ H locs 10 ls hf hP hD hS dX5_number_10
theorem k_X5_number {p : Program} {l : Launch} {e : Env} {R : Room} {s : State} {m : MethodId} {args : Array Value} {below : List Frame} {meth : Method} {c : Code} {H : Heap} {locs : List Loc} {Q : State → Prop} {cc : ByteArray} {pc : Nat} {ls : Array Slot} {rest : List Value} {own : String} {index nL : Nat} {A : Nat → Prop} {z : Cx} {r : Nat → Nat} {σ : XS} {a0 : Int32} (S : CallFix p m c cc nL s args tbG own) (hK : va_K z.1 vwCl (cxT z) s) (hA : ∀ q, s.heap.size ≤ q → A q) (hP : va_P z.1 vwCl (xW z r σ) H) (hD : va_D A (xW z r σ)) (hS : va_S A s.heap H locs) (hl : Cond.methodLink own index yX5_number ∈ tbG) (hR : 3 + 1 ≤ R.frames ∧ 8 + (9 + 11) + 80 ≤ R.locals) (hsz : ls.size = nL) (hcat : (rest.map fun v => v.category).sum ≤ 8) (hdg : decode cc pc = .ok (.invokevirtual index, 3)) (kk : ∀ (H : Heap) (locs : List Loc), va_P z.1 vwCl (xW z r (F_X5_number σ a0).2) H → va_D A (xW z r (F_X5_number σ a0).2) → va_S A s.heap H locs → W p l e R s m args below meth c H locs 0 0 Q (F0 m (pc + 3) ls (.int (zB (F_X5_number σ a0).1) :: rest))) : W p l e R s m args below meth c H locs 0 0 Q (F0 m pc ls (.int a0 :: .ref (r 8) :: rest)) :=
  km (As := [.int a0]) (ov := some (.int (zB (F_X5_number σ a0).1))) (w' := xW z r (F_X5_number σ a0).2) (q0 := 8) (ci := 4) S hK hA hP hD hS (c_X5_number l z r σ a0 H.size _ rfl) ⟨tb_cB 1 S.2.2.2.2 tc_X5_number ti_X5 hl rfl rfl (by decide +kernel) hR, S.2.2.2.2 _ tm_X5_number, S.2.2.2.2 _ te_X5_number⟩ rfl rfl rfl rfl hsz rfl hcat hdg kk

theorem dJ6_numberOfLeadingZeros_0f7a4_0 : decode cJ6_numberOfLeadingZeros_0f7a4 0 = .ok (.iload_n 0, 1) := by decide +kernel
theorem dJ6_numberOfLeadingZeros_0f7a4_1 : decode cJ6_numberOfLeadingZeros_0f7a4 1 = .ok (.ifCond .gt 14, 3) := by decide +kernel
theorem dJ6_numberOfLeadingZeros_0f7a4_4 : decode cJ6_numberOfLeadingZeros_0f7a4 4 = .ok (.iload_n 0, 1) := by decide +kernel
theorem dJ6_numberOfLeadingZeros_0f7a4_5 : decode cJ6_numberOfLeadingZeros_0f7a4 5 = .ok (.ifCond .ne 8, 3) := by decide +kernel
theorem dJ6_numberOfLeadingZeros_0f7a4_8 : decode cJ6_numberOfLeadingZeros_0f7a4 8 = .ok (.bipush 32, 2) := by decide +kernel
theorem dJ6_numberOfLeadingZeros_0f7a4_10 : decode cJ6_numberOfLeadingZeros_0f7a4 10 = .ok (.goto 4, 3) := by decide +kernel
theorem dJ6_numberOfLeadingZeros_0f7a4_13 : decode cJ6_numberOfLeadingZeros_0f7a4 13 = .ok (.iconst 0, 1) := by decide +kernel
theorem dJ6_numberOfLeadingZeros_0f7a4_14 : decode cJ6_numberOfLeadingZeros_0f7a4 14 = .ok (.ireturn, 1) := by decide +kernel
theorem dJ6_numberOfLeadingZeros_0f7a4_15 : decode cJ6_numberOfLeadingZeros_0f7a4 15 = .ok (.bipush 31, 2) := by decide +kernel
theorem dJ6_numberOfLeadingZeros_0f7a4_17 : decode cJ6_numberOfLeadingZeros_0f7a4 17 = .ok (.istore_n 1, 1) := by decide +kernel
theorem dJ6_numberOfLeadingZeros_0f7a4_18 : decode cJ6_numberOfLeadingZeros_0f7a4 18 = .ok (.iload_n 0, 1) := by decide +kernel
theorem dJ6_numberOfLeadingZeros_0f7a4_19 : decode cJ6_numberOfLeadingZeros_0f7a4 19 = .ok (.ldc_w 264, 3) := by decide +kernel
theorem dJ6_numberOfLeadingZeros_0f7a4_22 : decode cJ6_numberOfLeadingZeros_0f7a4 22 = .ok (.if_icmp .lt 11, 3) := by decide +kernel
theorem dJ6_numberOfLeadingZeros_0f7a4_25 : decode cJ6_numberOfLeadingZeros_0f7a4 25 = .ok (.iinc 1 (-16), 3) := by decide +kernel
theorem dJ6_numberOfLeadingZeros_0f7a4_28 : decode cJ6_numberOfLeadingZeros_0f7a4 28 = .ok (.iload_n 0, 1) := by decide +kernel
theorem dJ6_numberOfLeadingZeros_0f7a4_29 : decode cJ6_numberOfLeadingZeros_0f7a4 29 = .ok (.bipush 16, 2) := by decide +kernel
theorem dJ6_numberOfLeadingZeros_0f7a4_31 : decode cJ6_numberOfLeadingZeros_0f7a4 31 = .ok (.iushr, 1) := by decide +kernel
theorem dJ6_numberOfLeadingZeros_0f7a4_32 : decode cJ6_numberOfLeadingZeros_0f7a4 32 = .ok (.istore_n 0, 1) := by decide +kernel
theorem dJ6_numberOfLeadingZeros_0f7a4_33 : decode cJ6_numberOfLeadingZeros_0f7a4 33 = .ok (.iload_n 0, 1) := by decide +kernel
theorem dJ6_numberOfLeadingZeros_0f7a4_34 : decode cJ6_numberOfLeadingZeros_0f7a4 34 = .ok (.sipush 256, 3) := by decide +kernel
theorem dJ6_numberOfLeadingZeros_0f7a4_37 : decode cJ6_numberOfLeadingZeros_0f7a4 37 = .ok (.if_icmp .lt 11, 3) := by decide +kernel
theorem dJ6_numberOfLeadingZeros_0f7a4_40 : decode cJ6_numberOfLeadingZeros_0f7a4 40 = .ok (.iinc 1 (-8), 3) := by decide +kernel
theorem dJ6_numberOfLeadingZeros_0f7a4_43 : decode cJ6_numberOfLeadingZeros_0f7a4 43 = .ok (.iload_n 0, 1) := by decide +kernel
theorem dJ6_numberOfLeadingZeros_0f7a4_44 : decode cJ6_numberOfLeadingZeros_0f7a4 44 = .ok (.bipush 8, 2) := by decide +kernel
theorem dJ6_numberOfLeadingZeros_0f7a4_46 : decode cJ6_numberOfLeadingZeros_0f7a4 46 = .ok (.iushr, 1) := by decide +kernel
theorem dJ6_numberOfLeadingZeros_0f7a4_47 : decode cJ6_numberOfLeadingZeros_0f7a4 47 = .ok (.istore_n 0, 1) := by decide +kernel
theorem dJ6_numberOfLeadingZeros_0f7a4_48 : decode cJ6_numberOfLeadingZeros_0f7a4 48 = .ok (.iload_n 0, 1) := by decide +kernel
theorem dJ6_numberOfLeadingZeros_0f7a4_49 : decode cJ6_numberOfLeadingZeros_0f7a4 49 = .ok (.bipush 16, 2) := by decide +kernel
theorem dJ6_numberOfLeadingZeros_0f7a4_51 : decode cJ6_numberOfLeadingZeros_0f7a4 51 = .ok (.if_icmp .lt 10, 3) := by decide +kernel
theorem dJ6_numberOfLeadingZeros_0f7a4_54 : decode cJ6_numberOfLeadingZeros_0f7a4 54 = .ok (.iinc 1 (-4), 3) := by decide +kernel
theorem dJ6_numberOfLeadingZeros_0f7a4_57 : decode cJ6_numberOfLeadingZeros_0f7a4 57 = .ok (.iload_n 0, 1) := by decide +kernel
theorem dJ6_numberOfLeadingZeros_0f7a4_58 : decode cJ6_numberOfLeadingZeros_0f7a4 58 = .ok (.iconst 4, 1) := by decide +kernel
theorem dJ6_numberOfLeadingZeros_0f7a4_59 : decode cJ6_numberOfLeadingZeros_0f7a4 59 = .ok (.iushr, 1) := by decide +kernel
theorem dJ6_numberOfLeadingZeros_0f7a4_60 : decode cJ6_numberOfLeadingZeros_0f7a4 60 = .ok (.istore_n 0, 1) := by decide +kernel
theorem dJ6_numberOfLeadingZeros_0f7a4_61 : decode cJ6_numberOfLeadingZeros_0f7a4 61 = .ok (.iload_n 0, 1) := by decide +kernel
theorem dJ6_numberOfLeadingZeros_0f7a4_62 : decode cJ6_numberOfLeadingZeros_0f7a4 62 = .ok (.iconst 4, 1) := by decide +kernel
theorem dJ6_numberOfLeadingZeros_0f7a4_63 : decode cJ6_numberOfLeadingZeros_0f7a4 63 = .ok (.if_icmp .lt 10, 3) := by decide +kernel
theorem dJ6_numberOfLeadingZeros_0f7a4_66 : decode cJ6_numberOfLeadingZeros_0f7a4 66 = .ok (.iinc 1 (-2), 3) := by decide +kernel
theorem dJ6_numberOfLeadingZeros_0f7a4_69 : decode cJ6_numberOfLeadingZeros_0f7a4 69 = .ok (.iload_n 0, 1) := by decide +kernel
theorem dJ6_numberOfLeadingZeros_0f7a4_70 : decode cJ6_numberOfLeadingZeros_0f7a4 70 = .ok (.iconst 2, 1) := by decide +kernel
theorem dJ6_numberOfLeadingZeros_0f7a4_71 : decode cJ6_numberOfLeadingZeros_0f7a4 71 = .ok (.iushr, 1) := by decide +kernel
theorem dJ6_numberOfLeadingZeros_0f7a4_72 : decode cJ6_numberOfLeadingZeros_0f7a4 72 = .ok (.istore_n 0, 1) := by decide +kernel
theorem dJ6_numberOfLeadingZeros_0f7a4_73 : decode cJ6_numberOfLeadingZeros_0f7a4 73 = .ok (.iload_n 1, 1) := by decide +kernel
theorem dJ6_numberOfLeadingZeros_0f7a4_74 : decode cJ6_numberOfLeadingZeros_0f7a4 74 = .ok (.iload_n 0, 1) := by decide +kernel
theorem dJ6_numberOfLeadingZeros_0f7a4_75 : decode cJ6_numberOfLeadingZeros_0f7a4 75 = .ok (.iconst 1, 1) := by decide +kernel
theorem dJ6_numberOfLeadingZeros_0f7a4_76 : decode cJ6_numberOfLeadingZeros_0f7a4 76 = .ok (.iushr, 1) := by decide +kernel
theorem dJ6_numberOfLeadingZeros_0f7a4_77 : decode cJ6_numberOfLeadingZeros_0f7a4 77 = .ok (.isub, 1) := by decide +kernel
theorem dJ6_numberOfLeadingZeros_0f7a4_78 : decode cJ6_numberOfLeadingZeros_0f7a4 78 = .ok (.ireturn, 1) := by decide +kernel
def F_J6_numberOfLeadingZeros_0f7a4_c73 (w0 : Int32) (w1 : Int32) : Int32 := (w1 - (j_iushr w0 (1 : Int32)))
def F_J6_numberOfLeadingZeros_0f7a4_c61 (w0 : Int32) (w1 : Int32) : Int32 := (if w0 < (4 : Int32) then (F_J6_numberOfLeadingZeros_0f7a4_c73 w0 w1) else (F_J6_numberOfLeadingZeros_0f7a4_c73 (j_iushr w0 (2 : Int32)) (w1 + (-2))))
def F_J6_numberOfLeadingZeros_0f7a4_c48 (w0 : Int32) (w1 : Int32) : Int32 := (if w0 < (16 : Int32) then (F_J6_numberOfLeadingZeros_0f7a4_c61 w0 w1) else (F_J6_numberOfLeadingZeros_0f7a4_c61 (j_iushr w0 (4 : Int32)) (w1 + (-4))))
def F_J6_numberOfLeadingZeros_0f7a4_c33 (w0 : Int32) (w1 : Int32) : Int32 := (if w0 < (256 : Int32) then (F_J6_numberOfLeadingZeros_0f7a4_c48 w0 w1) else (F_J6_numberOfLeadingZeros_0f7a4_c48 (j_iushr w0 (8 : Int32)) (w1 + (-8))))
def F_J6_numberOfLeadingZeros_0f7a4 (a0 : Int32) : Int32 := (if 0 < a0 then (if a0 < (65536 : Int32) then (F_J6_numberOfLeadingZeros_0f7a4_c33 a0 (31 : Int32)) else (F_J6_numberOfLeadingZeros_0f7a4_c33 (j_iushr a0 (16 : Int32)) ((31 : Int32) + (-16)))) else (if a0 = 0 then (32 : Int32) else (0 : Int32)))
set_option maxHeartbeats 4000000 in
set_option maxRecDepth 100000 in
theorem c_J6_numberOfLeadingZeros_0f7a4 (l : Launch) (a0 : Int32) (res : Int32) (hf : F_J6_numberOfLeadingZeros_0f7a4 a0 = res) : Met l yJ6_numberOfLeadingZeros_0f7a4 (wsC yJ6_numberOfLeadingZeros_0f7a4 cJ6_numberOfLeadingZeros_0f7a4 2 (some .int)) { frames := 0, cells := 0, slots := 0, locals := 0 } (fun v _ => v = ([.int a0] : List Value).toArray) (gS (some (.int res))) 0 0 (fun _ => False) := by
  refine mk_s_i (own := RJ6) (by decide) rfl _ (Nat.le_of_ble_eq_true rfl) (fun p e s m below meth c H locs Q ls S hl hend => ?_)
  have hx := S.1
  have hb := S.2.1
  have hown := S.2.2.2.1
  have hts := S.2.2.2.2
  have hl : lv_has ls 2 [(0, .int a0)] := hl
  have J_c73 : ∀ (w0 : Int32) (w1 : Int32) (ls : Array Slot), F_J6_numberOfLeadingZeros_0f7a4_c73 w0 w1 = res → lv_has ls 2 [(0, .int w0), (1, .int w1)] → W p l e { frames := 0, cells := 0, slots := 0, locals := 0 } s m ([.int a0] : List Value).toArray below meth c H locs 0 0 Q (F0 m 73 ls []) := by
    intro w0 w1 ls hf hl
    unfold F_J6_numberOfLeadingZeros_0f7a4_c73 at hf
    refine lv_iload_n hx hb dJ6_numberOfLeadingZeros_0f7a4_73 rfl (lv_at hl 1 rfl) ?_
    refine lv_iload_n hx hb dJ6_numberOfLeadingZeros_0f7a4_74 rfl (lv_at hl 0 rfl) ?_
    refine lv_iconst (v := 1) hx hb dJ6_numberOfLeadingZeros_0f7a4_75 (by decide) ?_
    refine lv_iushr (v := (j_iushr w0 (1 : Int32))) hx hb dJ6_numberOfLeadingZeros_0f7a4_76 rfl ?_
    refine lv_isub hx hb dJ6_numberOfLeadingZeros_0f7a4_77 ?_
    exact hend (w1 - (j_iushr w0 (1 : Int32))) 78 ls hf dJ6_numberOfLeadingZeros_0f7a4_78
  have J_c61 : ∀ (w0 : Int32) (w1 : Int32) (ls : Array Slot), F_J6_numberOfLeadingZeros_0f7a4_c61 w0 w1 = res → lv_has ls 2 [(0, .int w0), (1, .int w1)] → W p l e { frames := 0, cells := 0, slots := 0, locals := 0 } s m ([.int a0] : List Value).toArray below meth c H locs 0 0 Q (F0 m 61 ls []) := by
    intro w0 w1 ls hf hl
    unfold F_J6_numberOfLeadingZeros_0f7a4_c61 at hf
    refine lv_iload_n hx hb dJ6_numberOfLeadingZeros_0f7a4_61 rfl (lv_at hl 0 rfl) ?_
    refine lv_iconst (v := 4) hx hb dJ6_numberOfLeadingZeros_0f7a4_62 (by decide) ?_
    refine lv_icmp_lt (tgt := 73) hx hb dJ6_numberOfLeadingZeros_0f7a4_63 (by decide) (fun c_63 => ?_) (fun c_63 => ?_)
    · rw [if_pos c_63] at hf
      exact J_c73 w0 w1 ls hf (lv_sub hl [0, 1] rfl)
    · rw [if_neg c_63] at hf
      refine lv_iinc (v := w1 + (-2)) (lv' := [(1, .int (w1 + (-2))), (0, .int w0)]) hx hb dJ6_numberOfLeadingZeros_0f7a4_66 hl (k := 1) rfl rfl (by decide) rfl (fun ls hl => ?_)
      refine lv_iload_n hx hb dJ6_numberOfLeadingZeros_0f7a4_69 rfl (lv_at hl 1 rfl) ?_
      refine lv_iconst (v := 2) hx hb dJ6_numberOfLeadingZeros_0f7a4_70 (by decide) ?_
      refine lv_iushr (v := (j_iushr w0 (2 : Int32))) hx hb dJ6_numberOfLeadingZeros_0f7a4_71 rfl ?_
      refine lv_istore_n (lv' := [(0, .int (j_iushr w0 (2 : Int32))), (1, .int (w1 + (-2)))]) hx hb dJ6_numberOfLeadingZeros_0f7a4_72 rfl hl (by decide) rfl (fun ls hl => ?_)
      exact J_c73 (j_iushr w0 (2 : Int32)) (w1 + (-2)) ls hf (lv_sub hl [0, 1] rfl)
  have J_c48 : ∀ (w0 : Int32) (w1 : Int32) (ls : Array Slot), F_J6_numberOfLeadingZeros_0f7a4_c48 w0 w1 = res → lv_has ls 2 [(0, .int w0), (1, .int w1)] → W p l e { frames := 0, cells := 0, slots := 0, locals := 0 } s m ([.int a0] : List Value).toArray below meth c H locs 0 0 Q (F0 m 48 ls []) := by
    intro w0 w1 ls hf hl
    unfold F_J6_numberOfLeadingZeros_0f7a4_c48 at hf
    refine lv_iload_n hx hb dJ6_numberOfLeadingZeros_0f7a4_48 rfl (lv_at hl 0 rfl) ?_
    refine lv_bipush (v := 16) hx hb dJ6_numberOfLeadingZeros_0f7a4_49 (by decide) ?_
    refine lv_icmp_lt (tgt := 61) hx hb dJ6_numberOfLeadingZeros_0f7a4_51 (by decide) (fun c_51 => ?_) (fun c_51 => ?_)
    · rw [if_pos c_51] at hf
      exact J_c61 w0 w1 ls hf (lv_sub hl [0, 1] rfl)
    · rw [if_neg c_51] at hf
      refine lv_iinc (v := w1 + (-4)) (lv' := [(1, .int (w1 + (-4))), (0, .int w0)]) hx hb dJ6_numberOfLeadingZeros_0f7a4_54 hl (k := 1) rfl rfl (by decide) rfl (fun ls hl => ?_)
      refine lv_iload_n hx hb dJ6_numberOfLeadingZeros_0f7a4_57 rfl (lv_at hl 1 rfl) ?_
      refine lv_iconst (v := 4) hx hb dJ6_numberOfLeadingZeros_0f7a4_58 (by decide) ?_
      refine lv_iushr (v := (j_iushr w0 (4 : Int32))) hx hb dJ6_numberOfLeadingZeros_0f7a4_59 rfl ?_
      refine lv_istore_n (lv' := [(0, .int (j_iushr w0 (4 : Int32))), (1, .int (w1 + (-4)))]) hx hb dJ6_numberOfLeadingZeros_0f7a4_60 rfl hl (by decide) rfl (fun ls hl => ?_)
      exact J_c61 (j_iushr w0 (4 : Int32)) (w1 + (-4)) ls hf (lv_sub hl [0, 1] rfl)
  have J_c33 : ∀ (w0 : Int32) (w1 : Int32) (ls : Array Slot), F_J6_numberOfLeadingZeros_0f7a4_c33 w0 w1 = res → lv_has ls 2 [(0, .int w0), (1, .int w1)] → W p l e { frames := 0, cells := 0, slots := 0, locals := 0 } s m ([.int a0] : List Value).toArray below meth c H locs 0 0 Q (F0 m 33 ls []) := by
    intro w0 w1 ls hf hl
    unfold F_J6_numberOfLeadingZeros_0f7a4_c33 at hf
    refine lv_iload_n hx hb dJ6_numberOfLeadingZeros_0f7a4_33 rfl (lv_at hl 0 rfl) ?_
    refine lv_sipush (v := 256) hx hb dJ6_numberOfLeadingZeros_0f7a4_34 (by decide) ?_
    refine lv_icmp_lt (tgt := 48) hx hb dJ6_numberOfLeadingZeros_0f7a4_37 (by decide) (fun c_37 => ?_) (fun c_37 => ?_)
    · rw [if_pos c_37] at hf
      exact J_c48 w0 w1 ls hf (lv_sub hl [0, 1] rfl)
    · rw [if_neg c_37] at hf
      refine lv_iinc (v := w1 + (-8)) (lv' := [(1, .int (w1 + (-8))), (0, .int w0)]) hx hb dJ6_numberOfLeadingZeros_0f7a4_40 hl (k := 1) rfl rfl (by decide) rfl (fun ls hl => ?_)
      refine lv_iload_n hx hb dJ6_numberOfLeadingZeros_0f7a4_43 rfl (lv_at hl 1 rfl) ?_
      refine lv_bipush (v := 8) hx hb dJ6_numberOfLeadingZeros_0f7a4_44 (by decide) ?_
      refine lv_iushr (v := (j_iushr w0 (8 : Int32))) hx hb dJ6_numberOfLeadingZeros_0f7a4_46 rfl ?_
      refine lv_istore_n (lv' := [(0, .int (j_iushr w0 (8 : Int32))), (1, .int (w1 + (-8)))]) hx hb dJ6_numberOfLeadingZeros_0f7a4_47 rfl hl (by decide) rfl (fun ls hl => ?_)
      exact J_c48 (j_iushr w0 (8 : Int32)) (w1 + (-8)) ls hf (lv_sub hl [0, 1] rfl)
  unfold F_J6_numberOfLeadingZeros_0f7a4 at hf
  refine lv_iload_n hx hb dJ6_numberOfLeadingZeros_0f7a4_0 rfl (lv_at hl 0 rfl) ?_
  refine lv_if_gt (tgt := 15) hx hb dJ6_numberOfLeadingZeros_0f7a4_1 (by decide) (fun c_1 => ?_) (fun c_1 => ?_)
  · rw [if_pos c_1] at hf
    refine lv_bipush (v := 31) hx hb dJ6_numberOfLeadingZeros_0f7a4_15 (by decide) ?_
    refine lv_istore_n (lv' := [(1, .int (31 : Int32)), (0, .int a0)]) hx hb dJ6_numberOfLeadingZeros_0f7a4_17 rfl hl (by decide) rfl (fun ls hl => ?_)
    refine lv_iload_n hx hb dJ6_numberOfLeadingZeros_0f7a4_18 rfl (lv_at hl 1 rfl) ?_
    refine lv_ldcw (v := 65536) hx hb hown (hts _ tk_J6_264) dJ6_numberOfLeadingZeros_0f7a4_19 ?_
    refine lv_icmp_lt (tgt := 33) hx hb dJ6_numberOfLeadingZeros_0f7a4_22 (by decide) (fun c_22 => ?_) (fun c_22 => ?_)
    · rw [if_pos c_22] at hf
      exact J_c33 a0 (31 : Int32) ls hf (lv_sub hl [1, 0] rfl)
    · rw [if_neg c_22] at hf
      refine lv_iinc (v := (31 : Int32) + (-16)) (lv' := [(1, .int ((31 : Int32) + (-16))), (0, .int a0)]) hx hb dJ6_numberOfLeadingZeros_0f7a4_25 hl (k := 0) rfl rfl (by decide) rfl (fun ls hl => ?_)
      refine lv_iload_n hx hb dJ6_numberOfLeadingZeros_0f7a4_28 rfl (lv_at hl 1 rfl) ?_
      refine lv_bipush (v := 16) hx hb dJ6_numberOfLeadingZeros_0f7a4_29 (by decide) ?_
      refine lv_iushr (v := (j_iushr a0 (16 : Int32))) hx hb dJ6_numberOfLeadingZeros_0f7a4_31 rfl ?_
      refine lv_istore_n (lv' := [(0, .int (j_iushr a0 (16 : Int32))), (1, .int ((31 : Int32) + (-16)))]) hx hb dJ6_numberOfLeadingZeros_0f7a4_32 rfl hl (by decide) rfl (fun ls hl => ?_)
      exact J_c33 (j_iushr a0 (16 : Int32)) ((31 : Int32) + (-16)) ls hf (lv_sub hl [0, 1] rfl)
  · rw [if_neg c_1] at hf
    refine lv_iload_n hx hb dJ6_numberOfLeadingZeros_0f7a4_4 rfl (lv_at hl 0 rfl) ?_
    refine lv_if_ne (tgt := 13) hx hb dJ6_numberOfLeadingZeros_0f7a4_5 (by decide) (fun c_5 => ?_) (fun c_5 => ?_)
    · rw [if_neg c_5] at hf
      refine lv_iconst (v := 0) hx hb dJ6_numberOfLeadingZeros_0f7a4_13 (by decide) ?_
      exact hend (0 : Int32) 14 ls hf dJ6_numberOfLeadingZeros_0f7a4_14
    · rw [if_pos c_5] at hf
      refine lv_bipush (v := 32) hx hb dJ6_numberOfLeadingZeros_0f7a4_8 (by decide) ?_
      refine lv_goto (tgt := 14) hx hb dJ6_numberOfLeadingZeros_0f7a4_10 (by decide) ?_
      exact hend (32 : Int32) 14 ls hf dJ6_numberOfLeadingZeros_0f7a4_14
theorem k_J6_numberOfLeadingZeros_0f7a4 {p : Program} {l : Launch} {e : Env} {R : Room} {s : State} {m : MethodId} {args : Array Value} {below : List Frame} {meth : Method} {c : Code} {H : Heap} {locs : List Loc} {Q : State → Prop} {cc : ByteArray} {pc : Nat} {ls : Array Slot} {rest : List Value} {own : String} {index nL : Nat} {a0 : Int32} (S : CallFix p m c cc nL s args tbG own) (hl : Cond.methodLink own index yJ6_numberOfLeadingZeros_0f7a4 ∈ tbG) (hR : 0 + 1 ≤ R.frames ∧ 8 + (2 + 11) + 0 ≤ R.locals) (hsz : ls.size = nL) (hcat : (rest.map fun v => v.category).sum ≤ 8) (hdg : decode cc pc = .ok (.invokestatic index, 3)) (kk : W p l e R s m args below meth c H locs 0 0 Q (F0 m (pc + 3) ls (.int (F_J6_numberOfLeadingZeros_0f7a4 a0) :: rest))) : W p l e R s m args below meth c H locs 0 0 Q (F0 m pc ls (.int a0 :: rest)) :=
  ks (As := [.int a0]) (ov := some (.int (F_J6_numberOfLeadingZeros_0f7a4 a0))) S (c_J6_numberOfLeadingZeros_0f7a4 l a0 _ rfl) ⟨tb_cB 1 S.2.2.2.2 tc_J6_numberOfLeadingZeros_0f7a4 ti_J6 hl rfl rfl (by decide +kernel) hR, S.2.2.2.2 _ ts_J6_numberOfLeadingZeros_0f7a4⟩ rfl hsz rfl hcat hdg kk

