theorem dJ6_highestOneBit_0f7a4_0 : decode cJ6_highestOneBit_0f7a4 0 = .ok (.iload_n 0, 1) := by decide +kernel
theorem dJ6_highestOneBit_0f7a4_1 : decode cJ6_highestOneBit_0f7a4 1 = .ok (.ldc 127, 2) := by decide +kernel
theorem dJ6_highestOneBit_0f7a4_3 : decode cJ6_highestOneBit_0f7a4 3 = .ok (.iload_n 0, 1) := by decide +kernel
theorem dJ6_highestOneBit_0f7a4_4 : decode cJ6_highestOneBit_0f7a4 4 = .ok (.invokestatic 51, 3) := by decide +kernel
theorem dJ6_highestOneBit_0f7a4_7 : decode cJ6_highestOneBit_0f7a4 7 = .ok (.iushr, 1) := by decide +kernel
theorem dJ6_highestOneBit_0f7a4_8 : decode cJ6_highestOneBit_0f7a4 8 = .ok (.iand, 1) := by decide +kernel
theorem dJ6_highestOneBit_0f7a4_9 : decode cJ6_highestOneBit_0f7a4 9 = .ok (.ireturn, 1) := by decide +kernel
def F_J6_highestOneBit_0f7a4 (a0 : Int32) : Int32 := (a0 &&& (j_iushr (-2147483648 : Int32) (F_J6_numberOfLeadingZeros_0f7a4 a0)))
set_option maxHeartbeats 4000000 in
set_option maxRecDepth 100000 in
theorem c_J6_highestOneBit_0f7a4 (l : Launch) (a0 : Int32) (res : Int32) (hf : F_J6_highestOneBit_0f7a4 a0 = res) : Met l yJ6_highestOneBit_0f7a4 (wsC yJ6_highestOneBit_0f7a4 cJ6_highestOneBit_0f7a4 1 (some .int)) { frames := 1, cells := 0, slots := 0, locals := 21 } (fun v _ => v = ([.int a0] : List Value).toArray) (gS (some (.int res))) 0 0 (fun _ => False) := by
  refine mk_s_i (own := RJ6) (by decide) rfl _ (Nat.le_of_ble_eq_true rfl) (fun p e s m below meth c H locs Q ls S hl hend => ?_)
  have hx := S.1
  have hb := S.2.1
  have hown := S.2.2.2.1
  have hts := S.2.2.2.2
  have hl : lv_has ls 1 [(0, .int a0)] := hl
  unfold F_J6_highestOneBit_0f7a4 at hf
  refine lv_iload_n hx hb dJ6_highestOneBit_0f7a4_0 rfl (lv_at hl 0 rfl) ?_
  refine lv_ldc (v := -2147483648) hx hb hown (hts _ tk_J6_127) dJ6_highestOneBit_0f7a4_1 ?_
  refine lv_iload_n hx hb dJ6_highestOneBit_0f7a4_3 rfl (lv_at hl 0 rfl) ?_
  refine k_J6_numberOfLeadingZeros_0f7a4 (a0 := a0) S tl_J6_51 ⟨Nat.le_of_ble_eq_true rfl, Nat.le_of_ble_eq_true rfl⟩ hl.1 (Nat.le_of_ble_eq_true rfl) dJ6_highestOneBit_0f7a4_4 ?_
  refine lv_iushr (v := (j_iushr (-2147483648 : Int32) (F_J6_numberOfLeadingZeros_0f7a4 a0))) hx hb dJ6_highestOneBit_0f7a4_7 rfl ?_
  refine lv_iand hx hb dJ6_highestOneBit_0f7a4_8 ?_
  exact hend (a0 &&& (j_iushr (-2147483648 : Int32) (F_J6_numberOfLeadingZeros_0f7a4 a0))) 9 ls hf dJ6_highestOneBit_0f7a4_9
theorem k_J6_highestOneBit_0f7a4 {p : Program} {l : Launch} {e : Env} {R : Room} {s : State} {m : MethodId} {args : Array Value} {below : List Frame} {meth : Method} {c : Code} {H : Heap} {locs : List Loc} {Q : State → Prop} {cc : ByteArray} {pc : Nat} {ls : Array Slot} {rest : List Value} {own : String} {index nL : Nat} {a0 : Int32} (S : CallFix p m c cc nL s args tbG own) (hl : Cond.methodLink own index yJ6_highestOneBit_0f7a4 ∈ tbG) (hR : 1 + 1 ≤ R.frames ∧ 8 + (1 + 11) + 21 ≤ R.locals) (hsz : ls.size = nL) (hcat : (rest.map fun v => v.category).sum ≤ 8) (hdg : decode cc pc = .ok (.invokestatic index, 3)) (kk : W p l e R s m args below meth c H locs 0 0 Q (F0 m (pc + 3) ls (.int (F_J6_highestOneBit_0f7a4 a0) :: rest))) : W p l e R s m args below meth c H locs 0 0 Q (F0 m pc ls (.int a0 :: rest)) :=
  ks (As := [.int a0]) (ov := some (.int (F_J6_highestOneBit_0f7a4 a0))) S (c_J6_highestOneBit_0f7a4 l a0 _ rfl) ⟨tb_cB 1 S.2.2.2.2 tc_J6_highestOneBit_0f7a4 ti_J6 hl rfl rfl (by decide +kernel) hR, S.2.2.2.2 _ ts_J6_highestOneBit_0f7a4⟩ rfl hsz rfl hcat hdg kk

theorem dX5_mask_0 : decode cX5_mask 0 = .ok (.iload_n 0, 1) := by decide +kernel
theorem dX5_mask_1 : decode cX5_mask 1 = .ok (.bipush 22, 2) := by decide +kernel
theorem dX5_mask_3 : decode cX5_mask 3 = .ok (.iconst 1, 1) := by decide +kernel
theorem dX5_mask_4 : decode cX5_mask 4 = .ok (.invokestatic 23, 3) := by decide +kernel
theorem dX5_mask_7 : decode cX5_mask 7 = .ok (.bipush 6, 2) := by decide +kernel
theorem dX5_mask_9 : decode cX5_mask 9 = .ok (.ishl, 1) := by decide +kernel
theorem dX5_mask_10 : decode cX5_mask 10 = .ok (.iload_n 0, 1) := by decide +kernel
theorem dX5_mask_11 : decode cX5_mask 11 = .ok (.bipush 10, 2) := by decide +kernel
theorem dX5_mask_13 : decode cX5_mask 13 = .ok (.iushr, 1) := by decide +kernel
theorem dX5_mask_14 : decode cX5_mask 14 = .ok (.iconst (-1), 1) := by decide +kernel
theorem dX5_mask_15 : decode cX5_mask 15 = .ok (.ixor, 1) := by decide +kernel
theorem dX5_mask_16 : decode cX5_mask 16 = .ok (.bipush 63, 2) := by decide +kernel
theorem dX5_mask_18 : decode cX5_mask 18 = .ok (.iand, 1) := by decide +kernel
theorem dX5_mask_19 : decode cX5_mask 19 = .ok (.ior, 1) := by decide +kernel
theorem dX5_mask_20 : decode cX5_mask 20 = .ok (.istore_n 1, 1) := by decide +kernel
theorem dX5_mask_21 : decode cX5_mask 21 = .ok (.iload_n 1, 1) := by decide +kernel
theorem dX5_mask_22 : decode cX5_mask 22 = .ok (.iconst 2, 1) := by decide +kernel
theorem dX5_mask_23 : decode cX5_mask 23 = .ok (.if_icmp .lt 16, 3) := by decide +kernel
theorem dX5_mask_26 : decode cX5_mask 26 = .ok (.iload_n 0, 1) := by decide +kernel
theorem dX5_mask_27 : decode cX5_mask 27 = .ok (.bipush 22, 2) := by decide +kernel
theorem dX5_mask_29 : decode cX5_mask 29 = .ok (.invokestatic 17, 3) := by decide +kernel
theorem dX5_mask_32 : decode cX5_mask 32 = .ok (.ifCond .eq 9, 3) := by decide +kernel
theorem dX5_mask_35 : decode cX5_mask 35 = .ok (.iload_n 0, 1) := by decide +kernel
theorem dX5_mask_36 : decode cX5_mask 36 = .ok (.ifCond .lt 5, 3) := by decide +kernel
theorem dX5_mask_39 : decode cX5_mask 39 = .ok (.lconst 0, 1) := by decide +kernel
theorem dX5_mask_40 : decode cX5_mask 40 = .ok (.lreturn, 1) := by decide +kernel
theorem dX5_mask_41 : decode cX5_mask 41 = .ok (.iload_n 1, 1) := by decide +kernel
theorem dX5_mask_42 : decode cX5_mask 42 = .ok (.invokestatic 56, 3) := by decide +kernel
theorem dX5_mask_45 : decode cX5_mask 45 = .ok (.istore_n 2, 1) := by decide +kernel
theorem dX5_mask_46 : decode cX5_mask 46 = .ok (.iload_n 0, 1) := by decide +kernel
theorem dX5_mask_47 : decode cX5_mask 47 = .ok (.bipush 10, 2) := by decide +kernel
theorem dX5_mask_49 : decode cX5_mask 49 = .ok (.bipush 6, 2) := by decide +kernel
theorem dX5_mask_51 : decode cX5_mask 51 = .ok (.invokestatic 23, 3) := by decide +kernel
theorem dX5_mask_54 : decode cX5_mask 54 = .ok (.iload_n 2, 1) := by decide +kernel
theorem dX5_mask_55 : decode cX5_mask 55 = .ok (.iconst 1, 1) := by decide +kernel
theorem dX5_mask_56 : decode cX5_mask 56 = .ok (.isub, 1) := by decide +kernel
theorem dX5_mask_57 : decode cX5_mask 57 = .ok (.iand, 1) := by decide +kernel
theorem dX5_mask_58 : decode cX5_mask 58 = .ok (.istore_n 3, 1) := by decide +kernel
theorem dX5_mask_59 : decode cX5_mask 59 = .ok (.iload_n 3, 1) := by decide +kernel
theorem dX5_mask_60 : decode cX5_mask 60 = .ok (.iload_n 2, 1) := by decide +kernel
theorem dX5_mask_61 : decode cX5_mask 61 = .ok (.iconst 1, 1) := by decide +kernel
theorem dX5_mask_62 : decode cX5_mask 62 = .ok (.isub, 1) := by decide +kernel
theorem dX5_mask_63 : decode cX5_mask 63 = .ok (.if_icmp .ne 5, 3) := by decide +kernel
theorem dX5_mask_66 : decode cX5_mask 66 = .ok (.lconst 0, 1) := by decide +kernel
theorem dX5_mask_67 : decode cX5_mask 67 = .ok (.lreturn, 1) := by decide +kernel
theorem dX5_mask_68 : decode cX5_mask 68 = .ok (.iload_n 0, 1) := by decide +kernel
theorem dX5_mask_69 : decode cX5_mask 69 = .ok (.bipush 16, 2) := by decide +kernel
theorem dX5_mask_71 : decode cX5_mask 71 = .ok (.bipush 6, 2) := by decide +kernel
theorem dX5_mask_73 : decode cX5_mask 73 = .ok (.invokestatic 23, 3) := by decide +kernel
theorem dX5_mask_76 : decode cX5_mask 76 = .ok (.iload_n 2, 1) := by decide +kernel
theorem dX5_mask_77 : decode cX5_mask 77 = .ok (.iconst 1, 1) := by decide +kernel
theorem dX5_mask_78 : decode cX5_mask 78 = .ok (.isub, 1) := by decide +kernel
theorem dX5_mask_79 : decode cX5_mask 79 = .ok (.iand, 1) := by decide +kernel
theorem dX5_mask_80 : decode cX5_mask 80 = .ok (.istore 4, 2) := by decide +kernel
theorem dX5_mask_82 : decode cX5_mask 82 = .ok (.iload_n 3, 1) := by decide +kernel
theorem dX5_mask_83 : decode cX5_mask 83 = .ok (.iconst 1, 1) := by decide +kernel
theorem dX5_mask_84 : decode cX5_mask 84 = .ok (.iadd, 1) := by decide +kernel
theorem dX5_mask_85 : decode cX5_mask 85 = .ok (.invokestatic 62, 3) := by decide +kernel
theorem dX5_mask_88 : decode cX5_mask 88 = .ok (.lstore 5, 2) := by decide +kernel
theorem dX5_mask_90 : decode cX5_mask 90 = .ok (.lload 5, 2) := by decide +kernel
theorem dX5_mask_92 : decode cX5_mask 92 = .ok (.iload 4, 2) := by decide +kernel
theorem dX5_mask_94 : decode cX5_mask 94 = .ok (.lushr, 1) := by decide +kernel
theorem dX5_mask_95 : decode cX5_mask 95 = .ok (.lload 5, 2) := by decide +kernel
theorem dX5_mask_97 : decode cX5_mask 97 = .ok (.iload_n 2, 1) := by decide +kernel
theorem dX5_mask_98 : decode cX5_mask 98 = .ok (.iload 4, 2) := by decide +kernel
theorem dX5_mask_100 : decode cX5_mask 100 = .ok (.isub, 1) := by decide +kernel
theorem dX5_mask_101 : decode cX5_mask 101 = .ok (.lshl, 1) := by decide +kernel
theorem dX5_mask_102 : decode cX5_mask 102 = .ok (.lor, 1) := by decide +kernel
theorem dX5_mask_103 : decode cX5_mask 103 = .ok (.iload_n 2, 1) := by decide +kernel
theorem dX5_mask_104 : decode cX5_mask 104 = .ok (.invokestatic 62, 3) := by decide +kernel
theorem dX5_mask_107 : decode cX5_mask 107 = .ok (.land, 1) := by decide +kernel
theorem dX5_mask_108 : decode cX5_mask 108 = .ok (.lstore 7, 2) := by decide +kernel
theorem dX5_mask_110 : decode cX5_mask 110 = .ok (.iconst 2, 1) := by decide +kernel
theorem dX5_mask_111 : decode cX5_mask 111 = .ok (.istore 9, 2) := by decide +kernel
theorem dX5_mask_113 : decode cX5_mask 113 = .ok (.iload 9, 2) := by decide +kernel
theorem dX5_mask_115 : decode cX5_mask 115 = .ok (.bipush 64, 2) := by decide +kernel
theorem dX5_mask_117 : decode cX5_mask 117 = .ok (.if_icmp .ge 28, 3) := by decide +kernel
theorem dX5_mask_120 : decode cX5_mask 120 = .ok (.iload 9, 2) := by decide +kernel
theorem dX5_mask_122 : decode cX5_mask 122 = .ok (.iload_n 2, 1) := by decide +kernel
theorem dX5_mask_123 : decode cX5_mask 123 = .ok (.if_icmp .lt 13, 3) := by decide +kernel
theorem dX5_mask_126 : decode cX5_mask 126 = .ok (.lload 7, 2) := by decide +kernel
theorem dX5_mask_128 : decode cX5_mask 128 = .ok (.lload 7, 2) := by decide +kernel
theorem dX5_mask_130 : decode cX5_mask 130 = .ok (.iload 9, 2) := by decide +kernel
theorem dX5_mask_132 : decode cX5_mask 132 = .ok (.lshl, 1) := by decide +kernel
theorem dX5_mask_133 : decode cX5_mask 133 = .ok (.lor, 1) := by decide +kernel
theorem dX5_mask_134 : decode cX5_mask 134 = .ok (.lstore 7, 2) := by decide +kernel
theorem dX5_mask_136 : decode cX5_mask 136 = .ok (.iload 9, 2) := by decide +kernel
theorem dX5_mask_138 : decode cX5_mask 138 = .ok (.iconst 2, 1) := by decide +kernel
theorem dX5_mask_139 : decode cX5_mask 139 = .ok (.imul, 1) := by decide +kernel
theorem dX5_mask_140 : decode cX5_mask 140 = .ok (.istore 9, 2) := by decide +kernel
theorem dX5_mask_142 : decode cX5_mask 142 = .ok (.goto (-29), 3) := by decide +kernel
theorem dX5_mask_145 : decode cX5_mask 145 = .ok (.lload 7, 2) := by decide +kernel
theorem dX5_mask_147 : decode cX5_mask 147 = .ok (.lreturn, 1) := by decide +kernel
def F_X5_mask_c136_9_32 (a0 : Int32) (w2 : Int32) (w7 : Int64) : Int64 := w7
def F_X5_mask_c136_9_16 (a0 : Int32) (w2 : Int32) (w7 : Int64) : Int64 := (if (32 : Int32) < w2 then (F_X5_mask_c136_9_32 a0 w2 w7) else (F_X5_mask_c136_9_32 a0 w2 (w7 ||| (j_lshl w7 (32 : Int32)))))
def F_X5_mask_c136_9_8 (a0 : Int32) (w2 : Int32) (w7 : Int64) : Int64 := (if (16 : Int32) < w2 then (F_X5_mask_c136_9_16 a0 w2 w7) else (F_X5_mask_c136_9_16 a0 w2 (w7 ||| (j_lshl w7 (16 : Int32)))))
def F_X5_mask_c136_9_4 (a0 : Int32) (w2 : Int32) (w7 : Int64) : Int64 := (if (8 : Int32) < w2 then (F_X5_mask_c136_9_8 a0 w2 w7) else (F_X5_mask_c136_9_8 a0 w2 (w7 ||| (j_lshl w7 (8 : Int32)))))
def F_X5_mask_c136_9_2 (a0 : Int32) (w2 : Int32) (w7 : Int64) : Int64 := (if (4 : Int32) < w2 then (F_X5_mask_c136_9_4 a0 w2 w7) else (F_X5_mask_c136_9_4 a0 w2 (w7 ||| (j_lshl w7 (4 : Int32)))))
def F_X5_mask_c41 (a0 : Int32) (w1 : Int32) : Int64 := (if ((F_X1_field a0 (10 : Int32) (6 : Int32)) &&& ((F_J6_highestOneBit_0f7a4 w1) - (1 : Int32))) = ((F_J6_highestOneBit_0f7a4 w1) - (1 : Int32)) then (0 : Int64) else (if (2 : Int32) < (F_J6_highestOneBit_0f7a4 w1) then (F_X5_mask_c136_9_2 a0 (F_J6_highestOneBit_0f7a4 w1) (((j_lushr (F_X1_ones (((F_X1_field a0 (10 : Int32) (6 : Int32)) &&& ((F_J6_highestOneBit_0f7a4 w1) - (1 : Int32))) + (1 : Int32))) ((F_X1_field a0 (16 : Int32) (6 : Int32)) &&& ((F_J6_highestOneBit_0f7a4 w1) - (1 : Int32)))) ||| (j_lshl (F_X1_ones (((F_X1_field a0 (10 : Int32) (6 : Int32)) &&& ((F_J6_highestOneBit_0f7a4 w1) - (1 : Int32))) + (1 : Int32))) ((F_J6_highestOneBit_0f7a4 w1) - ((F_X1_field a0 (16 : Int32) (6 : Int32)) &&& ((F_J6_highestOneBit_0f7a4 w1) - (1 : Int32)))))) &&& (F_X1_ones (F_J6_highestOneBit_0f7a4 w1)))) else (F_X5_mask_c136_9_2 a0 (F_J6_highestOneBit_0f7a4 w1) ((((j_lushr (F_X1_ones (((F_X1_field a0 (10 : Int32) (6 : Int32)) &&& ((F_J6_highestOneBit_0f7a4 w1) - (1 : Int32))) + (1 : Int32))) ((F_X1_field a0 (16 : Int32) (6 : Int32)) &&& ((F_J6_highestOneBit_0f7a4 w1) - (1 : Int32)))) ||| (j_lshl (F_X1_ones (((F_X1_field a0 (10 : Int32) (6 : Int32)) &&& ((F_J6_highestOneBit_0f7a4 w1) - (1 : Int32))) + (1 : Int32))) ((F_J6_highestOneBit_0f7a4 w1) - ((F_X1_field a0 (16 : Int32) (6 : Int32)) &&& ((F_J6_highestOneBit_0f7a4 w1) - (1 : Int32)))))) &&& (F_X1_ones (F_J6_highestOneBit_0f7a4 w1))) ||| (j_lshl (((j_lushr (F_X1_ones (((F_X1_field a0 (10 : Int32) (6 : Int32)) &&& ((F_J6_highestOneBit_0f7a4 w1) - (1 : Int32))) + (1 : Int32))) ((F_X1_field a0 (16 : Int32) (6 : Int32)) &&& ((F_J6_highestOneBit_0f7a4 w1) - (1 : Int32)))) ||| (j_lshl (F_X1_ones (((F_X1_field a0 (10 : Int32) (6 : Int32)) &&& ((F_J6_highestOneBit_0f7a4 w1) - (1 : Int32))) + (1 : Int32))) ((F_J6_highestOneBit_0f7a4 w1) - ((F_X1_field a0 (16 : Int32) (6 : Int32)) &&& ((F_J6_highestOneBit_0f7a4 w1) - (1 : Int32)))))) &&& (F_X1_ones (F_J6_highestOneBit_0f7a4 w1))) (2 : Int32))))))
def F_X5_mask (a0 : Int32) : Int64 := (if (((F_X1_field a0 (22 : Int32) (1 : Int32)) <<< ((6 : Int32) &&& 31)) ||| (((j_iushr a0 (10 : Int32)) ^^^ (-1 : Int32)) &&& (63 : Int32))) < (2 : Int32) then (0 : Int64) else (if (F_X1_isOne a0 (22 : Int32)) = true then (if a0 < 0 then (F_X5_mask_c41 a0 (((F_X1_field a0 (22 : Int32) (1 : Int32)) <<< ((6 : Int32) &&& 31)) ||| (((j_iushr a0 (10 : Int32)) ^^^ (-1 : Int32)) &&& (63 : Int32)))) else (0 : Int64)) else (F_X5_mask_c41 a0 (((F_X1_field a0 (22 : Int32) (1 : Int32)) <<< ((6 : Int32) &&& 31)) ||| (((j_iushr a0 (10 : Int32)) ^^^ (-1 : Int32)) &&& (63 : Int32))))))
set_option maxHeartbeats 4000000 in
set_option maxRecDepth 100000 in
theorem c_X5_mask (l : Launch) (a0 : Int32) (res : Int64) (hf : F_X5_mask a0 = res) : Met l yX5_mask (wsC yX5_mask cX5_mask 10 (some .long)) { frames := 2, cells := 0, slots := 0, locals := 41 } (fun v _ => v = ([.int a0] : List Value).toArray) (gS (some (.long res))) 0 0 (fun _ => False) := by
  refine mk_s_l (own := RX5) (by decide) rfl _ (Nat.le_of_ble_eq_true rfl) (fun p e s m below meth c H locs Q ls S hl hend => ?_)
  have hx := S.1
  have hb := S.2.1
  have hown := S.2.2.2.1
  have hts := S.2.2.2.2
  have hl : lv_has ls 10 [(0, .int a0)] := hl
  have J_c136_9_32 : ∀ (w2 : Int32) (w7 : Int64) (ls : Array Slot), F_X5_mask_c136_9_32 a0 w2 w7 = res → lv_has ls 10 [(2, .int w2), (7, .long w7), (9, .int (32 : Int32))] → W p l e { frames := 2, cells := 0, slots := 0, locals := 41 } s m ([.int a0] : List Value).toArray below meth c H locs 0 0 Q (F0 m 136 ls []) := by
    intro w2 w7 ls hf hl
    unfold F_X5_mask_c136_9_32 at hf
    refine lv_iload hx hb dX5_mask_136 (lv_at hl 2 rfl) ?_
    refine lv_iconst (v := 2) hx hb dX5_mask_138 (by decide) ?_
    refine lv_imul hx hb dX5_mask_139 ?_
    refine lv_topi (fun y_139 ey_139 => ?_)
    have ey_139 : y_139 = 64 := by rw [ey_139]; decide
    subst ey_139
    refine lv_istore (lv' := [(9, .int (64 : Int32)), (2, .int w2), (7, .long w7)]) hx hb dX5_mask_140 hl (by decide) rfl (fun ls hl => ?_)
    refine lv_goto (tgt := 113) hx hb dX5_mask_142 (by decide) ?_
    refine lv_iload hx hb dX5_mask_113 (lv_at hl 0 rfl) ?_
    refine lv_bipush (v := 64) hx hb dX5_mask_115 (by decide) ?_
    refine lv_icmp_ge (tgt := 145) hx hb dX5_mask_117 (by decide) (fun c_117 => ?_) (fun c_117 => absurd c_117 (by decide))
    refine lv_lload hx hb dX5_mask_145 (lv_at hl 2 rfl) ?_
    exact hend w7 147 ls hf dX5_mask_147
  have J_c136_9_16 : ∀ (w2 : Int32) (w7 : Int64) (ls : Array Slot), F_X5_mask_c136_9_16 a0 w2 w7 = res → lv_has ls 10 [(2, .int w2), (7, .long w7), (9, .int (16 : Int32))] → W p l e { frames := 2, cells := 0, slots := 0, locals := 41 } s m ([.int a0] : List Value).toArray below meth c H locs 0 0 Q (F0 m 136 ls []) := by
    intro w2 w7 ls hf hl
    unfold F_X5_mask_c136_9_16 at hf
    refine lv_iload hx hb dX5_mask_136 (lv_at hl 2 rfl) ?_
    refine lv_iconst (v := 2) hx hb dX5_mask_138 (by decide) ?_
    refine lv_imul hx hb dX5_mask_139 ?_
    refine lv_topi (fun y_139 ey_139 => ?_)
    have ey_139 : y_139 = 32 := by rw [ey_139]; decide
    subst ey_139
    refine lv_istore (lv' := [(9, .int (32 : Int32)), (2, .int w2), (7, .long w7)]) hx hb dX5_mask_140 hl (by decide) rfl (fun ls hl => ?_)
    refine lv_goto (tgt := 113) hx hb dX5_mask_142 (by decide) ?_
    refine lv_iload hx hb dX5_mask_113 (lv_at hl 0 rfl) ?_
    refine lv_bipush (v := 64) hx hb dX5_mask_115 (by decide) ?_
    refine lv_icmp_ge (tgt := 145) hx hb dX5_mask_117 (by decide) (fun c_117 => absurd c_117 (by decide)) (fun c_117 => ?_)
    refine lv_iload hx hb dX5_mask_120 (lv_at hl 0 rfl) ?_
    refine lv_iload_n hx hb dX5_mask_122 rfl (lv_at hl 1 rfl) ?_
    refine lv_icmp_lt (tgt := 136) hx hb dX5_mask_123 (by decide) (fun c_123 => ?_) (fun c_123 => ?_)
    · rw [if_pos c_123] at hf
      exact J_c136_9_32 w2 w7 ls hf (lv_sub hl [1, 2, 0] rfl)
    · rw [if_neg c_123] at hf
      refine lv_lload hx hb dX5_mask_126 (lv_at hl 2 rfl) ?_
      refine lv_lload hx hb dX5_mask_128 (lv_at hl 2 rfl) ?_
      refine lv_iload hx hb dX5_mask_130 (lv_at hl 0 rfl) ?_
      refine lv_lshl (v := (j_lshl w7 (32 : Int32))) hx hb dX5_mask_132 rfl ?_
      refine lv_lor hx hb dX5_mask_133 ?_
      refine lv_lstore (lv' := [(7, .long (w7 ||| (j_lshl w7 (32 : Int32)))), (9, .int (32 : Int32)), (2, .int w2)]) hx hb dX5_mask_134 hl (by decide) rfl (fun ls hl => ?_)
      exact J_c136_9_32 w2 (w7 ||| (j_lshl w7 (32 : Int32))) ls hf (lv_sub hl [2, 0, 1] rfl)
  have J_c136_9_8 : ∀ (w2 : Int32) (w7 : Int64) (ls : Array Slot), F_X5_mask_c136_9_8 a0 w2 w7 = res → lv_has ls 10 [(2, .int w2), (7, .long w7), (9, .int (8 : Int32))] → W p l e { frames := 2, cells := 0, slots := 0, locals := 41 } s m ([.int a0] : List Value).toArray below meth c H locs 0 0 Q (F0 m 136 ls []) := by
    intro w2 w7 ls hf hl
    unfold F_X5_mask_c136_9_8 at hf
    refine lv_iload hx hb dX5_mask_136 (lv_at hl 2 rfl) ?_
    refine lv_iconst (v := 2) hx hb dX5_mask_138 (by decide) ?_
    refine lv_imul hx hb dX5_mask_139 ?_
    refine lv_topi (fun y_139 ey_139 => ?_)
    have ey_139 : y_139 = 16 := by rw [ey_139]; decide
    subst ey_139
    refine lv_istore (lv' := [(9, .int (16 : Int32)), (2, .int w2), (7, .long w7)]) hx hb dX5_mask_140 hl (by decide) rfl (fun ls hl => ?_)
    refine lv_goto (tgt := 113) hx hb dX5_mask_142 (by decide) ?_
    refine lv_iload hx hb dX5_mask_113 (lv_at hl 0 rfl) ?_
    refine lv_bipush (v := 64) hx hb dX5_mask_115 (by decide) ?_
    refine lv_icmp_ge (tgt := 145) hx hb dX5_mask_117 (by decide) (fun c_117 => absurd c_117 (by decide)) (fun c_117 => ?_)
    refine lv_iload hx hb dX5_mask_120 (lv_at hl 0 rfl) ?_
    refine lv_iload_n hx hb dX5_mask_122 rfl (lv_at hl 1 rfl) ?_
    refine lv_icmp_lt (tgt := 136) hx hb dX5_mask_123 (by decide) (fun c_123 => ?_) (fun c_123 => ?_)
    · rw [if_pos c_123] at hf
      exact J_c136_9_16 w2 w7 ls hf (lv_sub hl [1, 2, 0] rfl)
    · rw [if_neg c_123] at hf
      refine lv_lload hx hb dX5_mask_126 (lv_at hl 2 rfl) ?_
      refine lv_lload hx hb dX5_mask_128 (lv_at hl 2 rfl) ?_
      refine lv_iload hx hb dX5_mask_130 (lv_at hl 0 rfl) ?_
      refine lv_lshl (v := (j_lshl w7 (16 : Int32))) hx hb dX5_mask_132 rfl ?_
      refine lv_lor hx hb dX5_mask_133 ?_
      refine lv_lstore (lv' := [(7, .long (w7 ||| (j_lshl w7 (16 : Int32)))), (9, .int (16 : Int32)), (2, .int w2)]) hx hb dX5_mask_134 hl (by decide) rfl (fun ls hl => ?_)
      exact J_c136_9_16 w2 (w7 ||| (j_lshl w7 (16 : Int32))) ls hf (lv_sub hl [2, 0, 1] rfl)
  have J_c136_9_4 : ∀ (w2 : Int32) (w7 : Int64) (ls : Array Slot), F_X5_mask_c136_9_4 a0 w2 w7 = res → lv_has ls 10 [(2, .int w2), (7, .long w7), (9, .int (4 : Int32))] → W p l e { frames := 2, cells := 0, slots := 0, locals := 41 } s m ([.int a0] : List Value).toArray below meth c H locs 0 0 Q (F0 m 136 ls []) := by
    intro w2 w7 ls hf hl
    unfold F_X5_mask_c136_9_4 at hf
    refine lv_iload hx hb dX5_mask_136 (lv_at hl 2 rfl) ?_
    refine lv_iconst (v := 2) hx hb dX5_mask_138 (by decide) ?_
    refine lv_imul hx hb dX5_mask_139 ?_
    refine lv_topi (fun y_139 ey_139 => ?_)
    have ey_139 : y_139 = 8 := by rw [ey_139]; decide
    subst ey_139
    refine lv_istore (lv' := [(9, .int (8 : Int32)), (2, .int w2), (7, .long w7)]) hx hb dX5_mask_140 hl (by decide) rfl (fun ls hl => ?_)
    refine lv_goto (tgt := 113) hx hb dX5_mask_142 (by decide) ?_
    refine lv_iload hx hb dX5_mask_113 (lv_at hl 0 rfl) ?_
    refine lv_bipush (v := 64) hx hb dX5_mask_115 (by decide) ?_
    refine lv_icmp_ge (tgt := 145) hx hb dX5_mask_117 (by decide) (fun c_117 => absurd c_117 (by decide)) (fun c_117 => ?_)
    refine lv_iload hx hb dX5_mask_120 (lv_at hl 0 rfl) ?_
    refine lv_iload_n hx hb dX5_mask_122 rfl (lv_at hl 1 rfl) ?_
    refine lv_icmp_lt (tgt := 136) hx hb dX5_mask_123 (by decide) (fun c_123 => ?_) (fun c_123 => ?_)
    · rw [if_pos c_123] at hf
      exact J_c136_9_8 w2 w7 ls hf (lv_sub hl [1, 2, 0] rfl)
    · rw [if_neg c_123] at hf
      refine lv_lload hx hb dX5_mask_126 (lv_at hl 2 rfl) ?_
      refine lv_lload hx hb dX5_mask_128 (lv_at hl 2 rfl) ?_
      refine lv_iload hx hb dX5_mask_130 (lv_at hl 0 rfl) ?_
      refine lv_lshl (v := (j_lshl w7 (8 : Int32))) hx hb dX5_mask_132 rfl ?_
      refine lv_lor hx hb dX5_mask_133 ?_
      refine lv_lstore (lv' := [(7, .long (w7 ||| (j_lshl w7 (8 : Int32)))), (9, .int (8 : Int32)), (2, .int w2)]) hx hb dX5_mask_134 hl (by decide) rfl (fun ls hl => ?_)
      exact J_c136_9_8 w2 (w7 ||| (j_lshl w7 (8 : Int32))) ls hf (lv_sub hl [2, 0, 1] rfl)
  have J_c136_9_2 : ∀ (w2 : Int32) (w7 : Int64) (ls : Array Slot), F_X5_mask_c136_9_2 a0 w2 w7 = res → lv_has ls 10 [(2, .int w2), (7, .long w7), (9, .int (2 : Int32))] → W p l e { frames := 2, cells := 0, slots := 0, locals := 41 } s m ([.int a0] : List Value).toArray below meth c H locs 0 0 Q (F0 m 136 ls []) := by
    intro w2 w7 ls hf hl
    unfold F_X5_mask_c136_9_2 at hf
    refine lv_iload hx hb dX5_mask_136 (lv_at hl 2 rfl) ?_
    refine lv_iconst (v := 2) hx hb dX5_mask_138 (by decide) ?_
    refine lv_imul hx hb dX5_mask_139 ?_
    refine lv_topi (fun y_139 ey_139 => ?_)
    have ey_139 : y_139 = 4 := by rw [ey_139]; decide
    subst ey_139
    refine lv_istore (lv' := [(9, .int (4 : Int32)), (2, .int w2), (7, .long w7)]) hx hb dX5_mask_140 hl (by decide) rfl (fun ls hl => ?_)
    refine lv_goto (tgt := 113) hx hb dX5_mask_142 (by decide) ?_
    refine lv_iload hx hb dX5_mask_113 (lv_at hl 0 rfl) ?_
    refine lv_bipush (v := 64) hx hb dX5_mask_115 (by decide) ?_
    refine lv_icmp_ge (tgt := 145) hx hb dX5_mask_117 (by decide) (fun c_117 => absurd c_117 (by decide)) (fun c_117 => ?_)
    refine lv_iload hx hb dX5_mask_120 (lv_at hl 0 rfl) ?_
    refine lv_iload_n hx hb dX5_mask_122 rfl (lv_at hl 1 rfl) ?_
    refine lv_icmp_lt (tgt := 136) hx hb dX5_mask_123 (by decide) (fun c_123 => ?_) (fun c_123 => ?_)
    · rw [if_pos c_123] at hf
      exact J_c136_9_4 w2 w7 ls hf (lv_sub hl [1, 2, 0] rfl)
    · rw [if_neg c_123] at hf
      refine lv_lload hx hb dX5_mask_126 (lv_at hl 2 rfl) ?_
      refine lv_lload hx hb dX5_mask_128 (lv_at hl 2 rfl) ?_
      refine lv_iload hx hb dX5_mask_130 (lv_at hl 0 rfl) ?_
      refine lv_lshl (v := (j_lshl w7 (4 : Int32))) hx hb dX5_mask_132 rfl ?_
      refine lv_lor hx hb dX5_mask_133 ?_
      refine lv_lstore (lv' := [(7, .long (w7 ||| (j_lshl w7 (4 : Int32)))), (9, .int (4 : Int32)), (2, .int w2)]) hx hb dX5_mask_134 hl (by decide) rfl (fun ls hl => ?_)
      exact J_c136_9_4 w2 (w7 ||| (j_lshl w7 (4 : Int32))) ls hf (lv_sub hl [2, 0, 1] rfl)
  have J_c41 : ∀ (w1 : Int32) (ls : Array Slot), F_X5_mask_c41 a0 w1 = res → lv_has ls 10 [(0, .int a0), (1, .int w1)] → W p l e { frames := 2, cells := 0, slots := 0, locals := 41 } s m ([.int a0] : List Value).toArray below meth c H locs 0 0 Q (F0 m 41 ls []) := by
    intro w1 ls hf hl
    unfold F_X5_mask_c41 at hf
    refine lv_iload_n hx hb dX5_mask_41 rfl (lv_at hl 1 rfl) ?_
    refine k_J6_highestOneBit_0f7a4 (a0 := w1) S tl_X5_56 ⟨Nat.le_of_ble_eq_true rfl, Nat.le_of_ble_eq_true rfl⟩ hl.1 (Nat.le_of_ble_eq_true rfl) dX5_mask_42 ?_
    refine lv_istore_n (lv' := [(2, .int (F_J6_highestOneBit_0f7a4 w1)), (0, .int a0), (1, .int w1)]) hx hb dX5_mask_45 rfl hl (by decide) rfl (fun ls hl => ?_)
    refine lv_iload_n hx hb dX5_mask_46 rfl (lv_at hl 1 rfl) ?_
    refine lv_bipush (v := 10) hx hb dX5_mask_47 (by decide) ?_
    refine lv_bipush (v := 6) hx hb dX5_mask_49 (by decide) ?_
    refine k_X1_field (a0 := a0) (a1 := (10 : Int32)) (a2 := (6 : Int32)) S tl_X5_23 ⟨Nat.le_of_ble_eq_true rfl, Nat.le_of_ble_eq_true rfl⟩ hl.1 (Nat.le_of_ble_eq_true rfl) dX5_mask_51 ?_
    refine lv_iload_n hx hb dX5_mask_54 rfl (lv_at hl 0 rfl) ?_
    refine lv_iconst (v := 1) hx hb dX5_mask_55 (by decide) ?_
    refine lv_isub hx hb dX5_mask_56 ?_
    refine lv_iand hx hb dX5_mask_57 ?_
    refine lv_istore_n (lv' := [(3, .int ((F_X1_field a0 (10 : Int32) (6 : Int32)) &&& ((F_J6_highestOneBit_0f7a4 w1) - (1 : Int32)))), (2, .int (F_J6_highestOneBit_0f7a4 w1)), (0, .int a0), (1, .int w1)]) hx hb dX5_mask_58 rfl hl (by decide) rfl (fun ls hl => ?_)
    refine lv_iload_n hx hb dX5_mask_59 rfl (lv_at hl 0 rfl) ?_
    refine lv_iload_n hx hb dX5_mask_60 rfl (lv_at hl 1 rfl) ?_
    refine lv_iconst (v := 1) hx hb dX5_mask_61 (by decide) ?_
    refine lv_isub hx hb dX5_mask_62 ?_
    refine lv_icmp_ne (tgt := 68) hx hb dX5_mask_63 (by decide) (fun c_63 => ?_) (fun c_63 => ?_)
    · rw [if_neg c_63] at hf
      refine lv_iload_n hx hb dX5_mask_68 rfl (lv_at hl 2 rfl) ?_
      refine lv_bipush (v := 16) hx hb dX5_mask_69 (by decide) ?_
      refine lv_bipush (v := 6) hx hb dX5_mask_71 (by decide) ?_
      refine k_X1_field (a0 := a0) (a1 := (16 : Int32)) (a2 := (6 : Int32)) S tl_X5_23 ⟨Nat.le_of_ble_eq_true rfl, Nat.le_of_ble_eq_true rfl⟩ hl.1 (Nat.le_of_ble_eq_true rfl) dX5_mask_73 ?_
      refine lv_iload_n hx hb dX5_mask_76 rfl (lv_at hl 1 rfl) ?_
      refine lv_iconst (v := 1) hx hb dX5_mask_77 (by decide) ?_
      refine lv_isub hx hb dX5_mask_78 ?_
      refine lv_iand hx hb dX5_mask_79 ?_
      refine lv_istore (lv' := [(4, .int ((F_X1_field a0 (16 : Int32) (6 : Int32)) &&& ((F_J6_highestOneBit_0f7a4 w1) - (1 : Int32)))), (3, .int ((F_X1_field a0 (10 : Int32) (6 : Int32)) &&& ((F_J6_highestOneBit_0f7a4 w1) - (1 : Int32)))), (2, .int (F_J6_highestOneBit_0f7a4 w1)), (0, .int a0), (1, .int w1)]) hx hb dX5_mask_80 hl (by decide) rfl (fun ls hl => ?_)
      refine lv_iload_n hx hb dX5_mask_82 rfl (lv_at hl 1 rfl) ?_
      refine lv_iconst (v := 1) hx hb dX5_mask_83 (by decide) ?_
      refine lv_iadd hx hb dX5_mask_84 ?_
      refine k_X1_ones (a0 := (((F_X1_field a0 (10 : Int32) (6 : Int32)) &&& ((F_J6_highestOneBit_0f7a4 w1) - (1 : Int32))) + (1 : Int32))) S tl_X5_62 ⟨Nat.le_of_ble_eq_true rfl, Nat.le_of_ble_eq_true rfl⟩ hl.1 (Nat.le_of_ble_eq_true rfl) dX5_mask_85 ?_
      refine lv_lstore (lv' := [(5, .long (F_X1_ones (((F_X1_field a0 (10 : Int32) (6 : Int32)) &&& ((F_J6_highestOneBit_0f7a4 w1) - (1 : Int32))) + (1 : Int32)))), (4, .int ((F_X1_field a0 (16 : Int32) (6 : Int32)) &&& ((F_J6_highestOneBit_0f7a4 w1) - (1 : Int32)))), (3, .int ((F_X1_field a0 (10 : Int32) (6 : Int32)) &&& ((F_J6_highestOneBit_0f7a4 w1) - (1 : Int32)))), (2, .int (F_J6_highestOneBit_0f7a4 w1)), (0, .int a0), (1, .int w1)]) hx hb dX5_mask_88 hl (by decide) rfl (fun ls hl => ?_)
      refine lv_lload hx hb dX5_mask_90 (lv_at hl 0 rfl) ?_
      refine lv_iload hx hb dX5_mask_92 (lv_at hl 1 rfl) ?_
      refine lv_lushr (v := (j_lushr (F_X1_ones (((F_X1_field a0 (10 : Int32) (6 : Int32)) &&& ((F_J6_highestOneBit_0f7a4 w1) - (1 : Int32))) + (1 : Int32))) ((F_X1_field a0 (16 : Int32) (6 : Int32)) &&& ((F_J6_highestOneBit_0f7a4 w1) - (1 : Int32))))) hx hb dX5_mask_94 rfl ?_
      refine lv_lload hx hb dX5_mask_95 (lv_at hl 0 rfl) ?_
      refine lv_iload_n hx hb dX5_mask_97 rfl (lv_at hl 3 rfl) ?_
      refine lv_iload hx hb dX5_mask_98 (lv_at hl 1 rfl) ?_
      refine lv_isub hx hb dX5_mask_100 ?_
      refine lv_lshl (v := (j_lshl (F_X1_ones (((F_X1_field a0 (10 : Int32) (6 : Int32)) &&& ((F_J6_highestOneBit_0f7a4 w1) - (1 : Int32))) + (1 : Int32))) ((F_J6_highestOneBit_0f7a4 w1) - ((F_X1_field a0 (16 : Int32) (6 : Int32)) &&& ((F_J6_highestOneBit_0f7a4 w1) - (1 : Int32)))))) hx hb dX5_mask_101 rfl ?_
      refine lv_lor hx hb dX5_mask_102 ?_
      refine lv_iload_n hx hb dX5_mask_103 rfl (lv_at hl 3 rfl) ?_
      refine k_X1_ones (a0 := (F_J6_highestOneBit_0f7a4 w1)) S tl_X5_62 ⟨Nat.le_of_ble_eq_true rfl, Nat.le_of_ble_eq_true rfl⟩ hl.1 (Nat.le_of_ble_eq_true rfl) dX5_mask_104 ?_
      refine lv_land hx hb dX5_mask_107 ?_
      refine lv_lstore (lv' := [(7, .long (((j_lushr (F_X1_ones (((F_X1_field a0 (10 : Int32) (6 : Int32)) &&& ((F_J6_highestOneBit_0f7a4 w1) - (1 : Int32))) + (1 : Int32))) ((F_X1_field a0 (16 : Int32) (6 : Int32)) &&& ((F_J6_highestOneBit_0f7a4 w1) - (1 : Int32)))) ||| (j_lshl (F_X1_ones (((F_X1_field a0 (10 : Int32) (6 : Int32)) &&& ((F_J6_highestOneBit_0f7a4 w1) - (1 : Int32))) + (1 : Int32))) ((F_J6_highestOneBit_0f7a4 w1) - ((F_X1_field a0 (16 : Int32) (6 : Int32)) &&& ((F_J6_highestOneBit_0f7a4 w1) - (1 : Int32)))))) &&& (F_X1_ones (F_J6_highestOneBit_0f7a4 w1)))), (5, .long (F_X1_ones (((F_X1_field a0 (10 : Int32) (6 : Int32)) &&& ((F_J6_highestOneBit_0f7a4 w1) - (1 : Int32))) + (1 : Int32)))), (4, .int ((F_X1_field a0 (16 : Int32) (6 : Int32)) &&& ((F_J6_highestOneBit_0f7a4 w1) - (1 : Int32)))), (3, .int ((F_X1_field a0 (10 : Int32) (6 : Int32)) &&& ((F_J6_highestOneBit_0f7a4 w1) - (1 : Int32)))), (2, .int (F_J6_highestOneBit_0f7a4 w1)), (0, .int a0), (1, .int w1)]) hx hb dX5_mask_108 hl (by decide) rfl (fun ls hl => ?_)
      refine lv_iconst (v := 2) hx hb dX5_mask_110 (by decide) ?_
      refine lv_istore (lv' := [(9, .int (2 : Int32)), (7, .long (((j_lushr (F_X1_ones (((F_X1_field a0 (10 : Int32) (6 : Int32)) &&& ((F_J6_highestOneBit_0f7a4 w1) - (1 : Int32))) + (1 : Int32))) ((F_X1_field a0 (16 : Int32) (6 : Int32)) &&& ((F_J6_highestOneBit_0f7a4 w1) - (1 : Int32)))) ||| (j_lshl (F_X1_ones (((F_X1_field a0 (10 : Int32) (6 : Int32)) &&& ((F_J6_highestOneBit_0f7a4 w1) - (1 : Int32))) + (1 : Int32))) ((F_J6_highestOneBit_0f7a4 w1) - ((F_X1_field a0 (16 : Int32) (6 : Int32)) &&& ((F_J6_highestOneBit_0f7a4 w1) - (1 : Int32)))))) &&& (F_X1_ones (F_J6_highestOneBit_0f7a4 w1)))), (5, .long (F_X1_ones (((F_X1_field a0 (10 : Int32) (6 : Int32)) &&& ((F_J6_highestOneBit_0f7a4 w1) - (1 : Int32))) + (1 : Int32)))), (4, .int ((F_X1_field a0 (16 : Int32) (6 : Int32)) &&& ((F_J6_highestOneBit_0f7a4 w1) - (1 : Int32)))), (3, .int ((F_X1_field a0 (10 : Int32) (6 : Int32)) &&& ((F_J6_highestOneBit_0f7a4 w1) - (1 : Int32)))), (2, .int (F_J6_highestOneBit_0f7a4 w1)), (0, .int a0), (1, .int w1)]) hx hb dX5_mask_111 hl (by decide) rfl (fun ls hl => ?_)
      refine lv_iload hx hb dX5_mask_113 (lv_at hl 0 rfl) ?_
      refine lv_bipush (v := 64) hx hb dX5_mask_115 (by decide) ?_
      refine lv_icmp_ge (tgt := 145) hx hb dX5_mask_117 (by decide) (fun c_117 => absurd c_117 (by decide)) (fun c_117 => ?_)
      refine lv_iload hx hb dX5_mask_120 (lv_at hl 0 rfl) ?_
      refine lv_iload_n hx hb dX5_mask_122 rfl (lv_at hl 5 rfl) ?_
      refine lv_icmp_lt (tgt := 136) hx hb dX5_mask_123 (by decide) (fun c_123 => ?_) (fun c_123 => ?_)
      · rw [if_pos c_123] at hf
        exact J_c136_9_2 (F_J6_highestOneBit_0f7a4 w1) (((j_lushr (F_X1_ones (((F_X1_field a0 (10 : Int32) (6 : Int32)) &&& ((F_J6_highestOneBit_0f7a4 w1) - (1 : Int32))) + (1 : Int32))) ((F_X1_field a0 (16 : Int32) (6 : Int32)) &&& ((F_J6_highestOneBit_0f7a4 w1) - (1 : Int32)))) ||| (j_lshl (F_X1_ones (((F_X1_field a0 (10 : Int32) (6 : Int32)) &&& ((F_J6_highestOneBit_0f7a4 w1) - (1 : Int32))) + (1 : Int32))) ((F_J6_highestOneBit_0f7a4 w1) - ((F_X1_field a0 (16 : Int32) (6 : Int32)) &&& ((F_J6_highestOneBit_0f7a4 w1) - (1 : Int32)))))) &&& (F_X1_ones (F_J6_highestOneBit_0f7a4 w1))) ls hf (lv_sub hl [5, 1, 0] rfl)
      · rw [if_neg c_123] at hf
        refine lv_lload hx hb dX5_mask_126 (lv_at hl 1 rfl) ?_
        refine lv_lload hx hb dX5_mask_128 (lv_at hl 1 rfl) ?_
        refine lv_iload hx hb dX5_mask_130 (lv_at hl 0 rfl) ?_
        refine lv_lshl (v := (j_lshl (((j_lushr (F_X1_ones (((F_X1_field a0 (10 : Int32) (6 : Int32)) &&& ((F_J6_highestOneBit_0f7a4 w1) - (1 : Int32))) + (1 : Int32))) ((F_X1_field a0 (16 : Int32) (6 : Int32)) &&& ((F_J6_highestOneBit_0f7a4 w1) - (1 : Int32)))) ||| (j_lshl (F_X1_ones (((F_X1_field a0 (10 : Int32) (6 : Int32)) &&& ((F_J6_highestOneBit_0f7a4 w1) - (1 : Int32))) + (1 : Int32))) ((F_J6_highestOneBit_0f7a4 w1) - ((F_X1_field a0 (16 : Int32) (6 : Int32)) &&& ((F_J6_highestOneBit_0f7a4 w1) - (1 : Int32)))))) &&& (F_X1_ones (F_J6_highestOneBit_0f7a4 w1))) (2 : Int32))) hx hb dX5_mask_132 rfl ?_
        refine lv_lor hx hb dX5_mask_133 ?_
        refine lv_lstore (lv' := [(7, .long ((((j_lushr (F_X1_ones (((F_X1_field a0 (10 : Int32) (6 : Int32)) &&& ((F_J6_highestOneBit_0f7a4 w1) - (1 : Int32))) + (1 : Int32))) ((F_X1_field a0 (16 : Int32) (6 : Int32)) &&& ((F_J6_highestOneBit_0f7a4 w1) - (1 : Int32)))) ||| (j_lshl (F_X1_ones (((F_X1_field a0 (10 : Int32) (6 : Int32)) &&& ((F_J6_highestOneBit_0f7a4 w1) - (1 : Int32))) + (1 : Int32))) ((F_J6_highestOneBit_0f7a4 w1) - ((F_X1_field a0 (16 : Int32) (6 : Int32)) &&& ((F_J6_highestOneBit_0f7a4 w1) - (1 : Int32)))))) &&& (F_X1_ones (F_J6_highestOneBit_0f7a4 w1))) ||| (j_lshl (((j_lushr (F_X1_ones (((F_X1_field a0 (10 : Int32) (6 : Int32)) &&& ((F_J6_highestOneBit_0f7a4 w1) - (1 : Int32))) + (1 : Int32))) ((F_X1_field a0 (16 : Int32) (6 : Int32)) &&& ((F_J6_highestOneBit_0f7a4 w1) - (1 : Int32)))) ||| (j_lshl (F_X1_ones (((F_X1_field a0 (10 : Int32) (6 : Int32)) &&& ((F_J6_highestOneBit_0f7a4 w1) - (1 : Int32))) + (1 : Int32))) ((F_J6_highestOneBit_0f7a4 w1) - ((F_X1_field a0 (16 : Int32) (6 : Int32)) &&& ((F_J6_highestOneBit_0f7a4 w1) - (1 : Int32)))))) &&& (F_X1_ones (F_J6_highestOneBit_0f7a4 w1))) (2 : Int32)))), (9, .int (2 : Int32)), (5, .long (F_X1_ones (((F_X1_field a0 (10 : Int32) (6 : Int32)) &&& ((F_J6_highestOneBit_0f7a4 w1) - (1 : Int32))) + (1 : Int32)))), (4, .int ((F_X1_field a0 (16 : Int32) (6 : Int32)) &&& ((F_J6_highestOneBit_0f7a4 w1) - (1 : Int32)))), (3, .int ((F_X1_field a0 (10 : Int32) (6 : Int32)) &&& ((F_J6_highestOneBit_0f7a4 w1) - (1 : Int32)))), (2, .int (F_J6_highestOneBit_0f7a4 w1)), (0, .int a0), (1, .int w1)]) hx hb dX5_mask_134 hl (by decide) rfl (fun ls hl => ?_)
        exact J_c136_9_2 (F_J6_highestOneBit_0f7a4 w1) ((((j_lushr (F_X1_ones (((F_X1_field a0 (10 : Int32) (6 : Int32)) &&& ((F_J6_highestOneBit_0f7a4 w1) - (1 : Int32))) + (1 : Int32))) ((F_X1_field a0 (16 : Int32) (6 : Int32)) &&& ((F_J6_highestOneBit_0f7a4 w1) - (1 : Int32)))) ||| (j_lshl (F_X1_ones (((F_X1_field a0 (10 : Int32) (6 : Int32)) &&& ((F_J6_highestOneBit_0f7a4 w1) - (1 : Int32))) + (1 : Int32))) ((F_J6_highestOneBit_0f7a4 w1) - ((F_X1_field a0 (16 : Int32) (6 : Int32)) &&& ((F_J6_highestOneBit_0f7a4 w1) - (1 : Int32)))))) &&& (F_X1_ones (F_J6_highestOneBit_0f7a4 w1))) ||| (j_lshl (((j_lushr (F_X1_ones (((F_X1_field a0 (10 : Int32) (6 : Int32)) &&& ((F_J6_highestOneBit_0f7a4 w1) - (1 : Int32))) + (1 : Int32))) ((F_X1_field a0 (16 : Int32) (6 : Int32)) &&& ((F_J6_highestOneBit_0f7a4 w1) - (1 : Int32)))) ||| (j_lshl (F_X1_ones (((F_X1_field a0 (10 : Int32) (6 : Int32)) &&& ((F_J6_highestOneBit_0f7a4 w1) - (1 : Int32))) + (1 : Int32))) ((F_J6_highestOneBit_0f7a4 w1) - ((F_X1_field a0 (16 : Int32) (6 : Int32)) &&& ((F_J6_highestOneBit_0f7a4 w1) - (1 : Int32)))))) &&& (F_X1_ones (F_J6_highestOneBit_0f7a4 w1))) (2 : Int32))) ls hf (lv_sub hl [5, 0, 1] rfl)
    · rw [if_pos c_63] at hf
      refine lv_lconst (v := 0) hx hb dX5_mask_66 (by decide) ?_
      exact hend (0 : Int64) 67 ls hf dX5_mask_67
  unfold F_X5_mask at hf
  refine lv_iload_n hx hb dX5_mask_0 rfl (lv_at hl 0 rfl) ?_
  refine lv_bipush (v := 22) hx hb dX5_mask_1 (by decide) ?_
  refine lv_iconst (v := 1) hx hb dX5_mask_3 (by decide) ?_
  refine k_X1_field (a0 := a0) (a1 := (22 : Int32)) (a2 := (1 : Int32)) S tl_X5_23 ⟨Nat.le_of_ble_eq_true rfl, Nat.le_of_ble_eq_true rfl⟩ hl.1 (Nat.le_of_ble_eq_true rfl) dX5_mask_4 ?_
  refine lv_bipush (v := 6) hx hb dX5_mask_7 (by decide) ?_
  refine lv_ishl hx hb dX5_mask_9 ?_
  refine lv_iload_n hx hb dX5_mask_10 rfl (lv_at hl 0 rfl) ?_
  refine lv_bipush (v := 10) hx hb dX5_mask_11 (by decide) ?_
  refine lv_iushr (v := (j_iushr a0 (10 : Int32))) hx hb dX5_mask_13 rfl ?_
  refine lv_iconst (v := -1) hx hb dX5_mask_14 (by decide) ?_
  refine lv_ixor hx hb dX5_mask_15 ?_
  refine lv_bipush (v := 63) hx hb dX5_mask_16 (by decide) ?_
  refine lv_iand hx hb dX5_mask_18 ?_
  refine lv_ior hx hb dX5_mask_19 ?_
  refine lv_istore_n (lv' := [(1, .int (((F_X1_field a0 (22 : Int32) (1 : Int32)) <<< ((6 : Int32) &&& 31)) ||| (((j_iushr a0 (10 : Int32)) ^^^ (-1 : Int32)) &&& (63 : Int32)))), (0, .int a0)]) hx hb dX5_mask_20 rfl hl (by decide) rfl (fun ls hl => ?_)
  refine lv_iload_n hx hb dX5_mask_21 rfl (lv_at hl 0 rfl) ?_
  refine lv_iconst (v := 2) hx hb dX5_mask_22 (by decide) ?_
  refine lv_icmp_lt (tgt := 39) hx hb dX5_mask_23 (by decide) (fun c_23 => ?_) (fun c_23 => ?_)
  · rw [if_pos c_23] at hf
    refine lv_lconst (v := 0) hx hb dX5_mask_39 (by decide) ?_
    exact hend (0 : Int64) 40 ls hf dX5_mask_40
  · rw [if_neg c_23] at hf
    refine lv_iload_n hx hb dX5_mask_26 rfl (lv_at hl 1 rfl) ?_
    refine lv_bipush (v := 22) hx hb dX5_mask_27 (by decide) ?_
    refine k_X1_isOne (a0 := a0) (a1 := (22 : Int32)) S tl_X5_17 ⟨Nat.le_of_ble_eq_true rfl, Nat.le_of_ble_eq_true rfl⟩ hl.1 (Nat.le_of_ble_eq_true rfl) dX5_mask_29 ?_
    refine gz_eq (tgt := 41) hx hb dX5_mask_32 (by decide) (fun c_32 => ?_) (fun c_32 => ?_)
    · rw [if_neg c_32] at hf
      exact J_c41 (((F_X1_field a0 (22 : Int32) (1 : Int32)) <<< ((6 : Int32) &&& 31)) ||| (((j_iushr a0 (10 : Int32)) ^^^ (-1 : Int32)) &&& (63 : Int32))) ls hf (lv_sub hl [1, 0] rfl)
    · rw [if_pos c_32] at hf
      refine lv_iload_n hx hb dX5_mask_35 rfl (lv_at hl 1 rfl) ?_
      refine lv_if_lt (tgt := 41) hx hb dX5_mask_36 (by decide) (fun c_36 => ?_) (fun c_36 => ?_)
      · rw [if_pos c_36] at hf
        exact J_c41 (((F_X1_field a0 (22 : Int32) (1 : Int32)) <<< ((6 : Int32) &&& 31)) ||| (((j_iushr a0 (10 : Int32)) ^^^ (-1 : Int32)) &&& (63 : Int32))) ls hf (lv_sub hl [1, 0] rfl)
      · rw [if_neg c_36] at hf
        refine lv_lconst (v := 0) hx hb dX5_mask_39 (by decide) ?_
        exact hend (0 : Int64) 40 ls hf dX5_mask_40
theorem k_X5_mask {p : Program} {l : Launch} {e : Env} {R : Room} {s : State} {m : MethodId} {args : Array Value} {below : List Frame} {meth : Method} {c : Code} {H : Heap} {locs : List Loc} {Q : State → Prop} {cc : ByteArray} {pc : Nat} {ls : Array Slot} {rest : List Value} {own : String} {index nL : Nat} {a0 : Int32} (S : CallFix p m c cc nL s args tbG own) (hl : Cond.methodLink own index yX5_mask ∈ tbG) (hR : 2 + 1 ≤ R.frames ∧ 8 + (10 + 11) + 41 ≤ R.locals) (hsz : ls.size = nL) (hcat : (rest.map fun v => v.category).sum ≤ 8) (hdg : decode cc pc = .ok (.invokestatic index, 3)) (kk : W p l e R s m args below meth c H locs 0 0 Q (F0 m (pc + 3) ls (.long (F_X5_mask a0) :: rest))) : W p l e R s m args below meth c H locs 0 0 Q (F0 m pc ls (.int a0 :: rest)) :=
  ks (As := [.int a0]) (ov := some (.long (F_X5_mask a0))) S (c_X5_mask l a0 _ rfl) ⟨tb_cB 1 S.2.2.2.2 tc_X5_mask ti_X5 hl rfl rfl (by decide +kernel) hR, S.2.2.2.2 _ ts_X5_mask⟩ rfl hsz rfl hcat hdg kk

theorem dX9_logic_0 : decode cX9_logic 0 = .ok (.lload_n 1, 1) := by decide +kernel
theorem dX9_logic_1 : decode cX9_logic 1 = .ok (.lload_n 3, 1) := by decide +kernel
theorem dX9_logic_2 : decode cX9_logic 2 = .ok (.land, 1) := by decide +kernel
theorem dX9_logic_3 : decode cX9_logic 3 = .ok (.lstore 7, 2) := by decide +kernel
theorem dX9_logic_5 : decode cX9_logic 5 = .ok (.iload 5, 2) := by decide +kernel
theorem dX9_logic_7 : decode cX9_logic 7 = .ok (.iconst 1, 1) := by decide +kernel
theorem dX9_logic_8 : decode cX9_logic 8 = .ok (.if_icmp .ne 11, 3) := by decide +kernel
theorem dX9_logic_11 : decode cX9_logic 11 = .ok (.lload_n 1, 1) := by decide +kernel
theorem dX9_logic_12 : decode cX9_logic 12 = .ok (.lload_n 3, 1) := by decide +kernel
theorem dX9_logic_13 : decode cX9_logic 13 = .ok (.lor, 1) := by decide +kernel
theorem dX9_logic_14 : decode cX9_logic 14 = .ok (.lstore 7, 2) := by decide +kernel
theorem dX9_logic_16 : decode cX9_logic 16 = .ok (.goto 14, 3) := by decide +kernel
theorem dX9_logic_19 : decode cX9_logic 19 = .ok (.iload 5, 2) := by decide +kernel
theorem dX9_logic_21 : decode cX9_logic 21 = .ok (.iconst 2, 1) := by decide +kernel
theorem dX9_logic_22 : decode cX9_logic 22 = .ok (.if_icmp .ne 8, 3) := by decide +kernel
theorem dX9_logic_25 : decode cX9_logic 25 = .ok (.lload_n 1, 1) := by decide +kernel
theorem dX9_logic_26 : decode cX9_logic 26 = .ok (.lload_n 3, 1) := by decide +kernel
theorem dX9_logic_27 : decode cX9_logic 27 = .ok (.lxor, 1) := by decide +kernel
theorem dX9_logic_28 : decode cX9_logic 28 = .ok (.lstore 7, 2) := by decide +kernel
theorem dX9_logic_30 : decode cX9_logic 30 = .ok (.lload 7, 2) := by decide +kernel
theorem dX9_logic_32 : decode cX9_logic 32 = .ok (.iload 6, 2) := by decide +kernel
theorem dX9_logic_34 : decode cX9_logic 34 = .ok (.invokestatic 13, 3) := by decide +kernel
theorem dX9_logic_37 : decode cX9_logic 37 = .ok (.lstore 7, 2) := by decide +kernel
theorem dX9_logic_39 : decode cX9_logic 39 = .ok (.iload 5, 2) := by decide +kernel
theorem dX9_logic_41 : decode cX9_logic 41 = .ok (.iconst 3, 1) := by decide +kernel
theorem dX9_logic_42 : decode cX9_logic 42 = .ok (.if_icmp .ne 20, 3) := by decide +kernel
theorem dX9_logic_45 : decode cX9_logic 45 = .ok (.aload_n 0, 1) := by decide +kernel
theorem dX9_logic_46 : decode cX9_logic 46 = .ok (.getfield 7, 3) := by decide +kernel
theorem dX9_logic_49 : decode cX9_logic 49 = .ok (.bipush 42, 2) := by decide +kernel
theorem dX9_logic_51 : decode cX9_logic 51 = .ok (.lload 7, 2) := by decide +kernel
theorem dX9_logic_53 : decode cX9_logic 53 = .ok (.iload 6, 2) := by decide +kernel
theorem dX9_logic_55 : decode cX9_logic 55 = .ok (.invokestatic 27, 3) := by decide +kernel
theorem dX9_logic_58 : decode cX9_logic 58 = .ok (.invokevirtual 30, 3) := by decide +kernel
theorem dX9_logic_61 : decode cX9_logic 61 = .ok (.pop, 1) := by decide +kernel
theorem dX9_logic_62 : decode cX9_logic 62 = .ok (.lload 7, 2) := by decide +kernel
theorem dX9_logic_64 : decode cX9_logic 64 = .ok (.lreturn, 1) := by decide +kernel
def F_X9_logic_c61 (τ : XS) (a0 : Int64) (a1 : Int64) (a2 : Int32) (a3 : Bool) (w7 : Int64) (s0 : Bool) : Int64 × XS := (w7, τ)
def F_X9_logic_c39 (τ : XS) (a0 : Int64) (a1 : Int64) (a2 : Int32) (a3 : Bool) (w7 : Int64) : Int64 × XS := (if a2 = (3 : Int32) then (F_X9_logic_c61 (F_X8_putPart τ (42 : Int32) (F_X9_signAndZero w7 a3)).2 a0 a1 a2 a3 w7 (F_X8_putPart τ (42 : Int32) (F_X9_signAndZero w7 a3)).1) else (w7, τ))
def F_X9_logic_c30 (τ : XS) (a0 : Int64) (a1 : Int64) (a2 : Int32) (a3 : Bool) (w7 : Int64) : Int64 × XS := (F_X9_logic_c39 τ a0 a1 a2 a3 (F_X1_narrow w7 a3))
def F_X9_logic (σ : XS) (a0 : Int64) (a1 : Int64) (a2 : Int32) (a3 : Bool) : Int64 × XS := (if a2 = (1 : Int32) then (F_X9_logic_c30 σ a0 a1 a2 a3 (a0 ||| a1)) else (if a2 = (2 : Int32) then (F_X9_logic_c30 σ a0 a1 a2 a3 (a0 ^^^ a1)) else (F_X9_logic_c30 σ a0 a1 a2 a3 (a0 &&& a1))))
set_option maxHeartbeats 4000000 in
set_option maxRecDepth 100000 in
theorem c_X9_logic (l : Launch) (z : Cx) (r : Nat → Nat) (σ : XS) (a0 : Int64) (a1 : Int64) (a2 : Int32) (a3 : Bool) (sz : Nat) (res : Int64 × XS) (hf : F_X9_logic σ a0 a1 a2 a3 = res) : Met l yX9_logic (wsC yX9_logic cX9_logic 9 (some .long)) { frames := 2, cells := 0, slots := 0, locals := 42 } (mPc z (xW z r σ) sz [.ref (r 7), .long a0, .long a1, .int a2, .int (zB a3)]) (gM z (va_A (xW z r σ) sz) (some (.long res.1)) (xW z r res.2)) 0 0 (va_A (xW z r σ) sz) := by
  refine mk_m_l (own := RX9) (wf := xW z r) (by decide) rfl sz _ (Nat.le_of_ble_eq_true rfl) (fun p e s m below meth c A H locs Q ls S hK hA hP hD hS hl hend => ?_)
  have hx := S.1
  have hb := S.2.1
  have hown := S.2.2.2.1
  have hts := S.2.2.2.2
  have hl : lv_has ls 9 [(0, .ref (r 7)), (1, .long a0), (3, .long a1), (5, .int a2), (6, .int (zB a3))] := hl
  have J_c61 : ∀ (τ : XS) (w7 : Int64) (s0 : Bool) (H : Heap) (locs : List Loc) (ls : Array Slot), F_X9_logic_c61 τ a0 a1 a2 a3 w7 s0 = res → va_P z.1 vwCl (xW z r τ) H → va_D A (xW z r τ) → va_S A s.heap H locs → lv_has ls 9 [(7, .long w7)] → W p l e { frames := 2, cells := 0, slots := 0, locals := 42 } s m ([.ref (r 7), .long a0, .long a1, .int a2, .int (zB a3)] : List Value).toArray below meth c H locs 0 0 Q (F0 m 61 ls [.int (zB s0)]) := by
    intro τ w7 s0 H locs ls hf hP hD hS hl
    unfold F_X9_logic_c61 at hf
    refine lv_pop hx hb dX9_logic_61 rfl ?_
    refine lv_lload hx hb dX9_logic_62 (lv_at hl 0 rfl) ?_
    exact hend w7 τ H locs 64 ls hf hP hD hS dX9_logic_64
  have J_c39 : ∀ (τ : XS) (w7 : Int64) (H : Heap) (locs : List Loc) (ls : Array Slot), F_X9_logic_c39 τ a0 a1 a2 a3 w7 = res → va_P z.1 vwCl (xW z r τ) H → va_D A (xW z r τ) → va_S A s.heap H locs → lv_has ls 9 [(0, .ref (r 7)), (5, .int a2), (6, .int (zB a3)), (7, .long w7)] → W p l e { frames := 2, cells := 0, slots := 0, locals := 42 } s m ([.ref (r 7), .long a0, .long a1, .int a2, .int (zB a3)] : List Value).toArray below meth c H locs 0 0 Q (F0 m 39 ls []) := by
    intro τ w7 H locs ls hf hP hD hS hl
    unfold F_X9_logic_c39 at hf
    refine lv_iload hx hb dX9_logic_39 (lv_at hl 1 rfl) ?_
    refine lv_iconst (v := 3) hx hb dX9_logic_41 (by decide) ?_
    refine lv_icmp_ne (tgt := 62) hx hb dX9_logic_42 (by decide) (fun c_42 => ?_) (fun c_42 => ?_)
    · rw [if_neg c_42] at hf
      refine lv_lload hx hb dX9_logic_62 (lv_at hl 3 rfl) ?_
      exact hend w7 τ H locs 64 ls hf hP hD hS dX9_logic_64
    · rw [if_pos c_42] at hf
      refine lv_aload_n hx hb dX9_logic_45 rfl (lv_at hl 0 rfl) ?_
      refine fg_X9_state S hK hP tf_X9_7 dX9_logic_46 ?_
      refine lv_bipush (v := 42) hx hb dX9_logic_49 (by decide) ?_
      refine lv_lload hx hb dX9_logic_51 (lv_at hl 3 rfl) ?_
      refine lv_iload hx hb dX9_logic_53 (lv_at hl 2 rfl) ?_
      refine k_X9_signAndZero (a0 := w7) (a1 := a3) S tl_X9_27 ⟨Nat.le_of_ble_eq_true rfl, Nat.le_of_ble_eq_true rfl⟩ hl.1 (Nat.le_of_ble_eq_true rfl) dX9_logic_55 ?_
      refine k_X8_putPart (a0 := (42 : Int32)) (a1 := (F_X9_signAndZero w7 a3)) S hK hA hP hD hS tl_X9_30 ⟨Nat.le_of_ble_eq_true rfl, Nat.le_of_ble_eq_true rfl⟩ hl.1 (Nat.le_of_ble_eq_true rfl) dX9_logic_58 (fun H locs hP hD hS => ?_)
      exact J_c61 (F_X8_putPart τ (42 : Int32) (F_X9_signAndZero w7 a3)).2 w7 (F_X8_putPart τ (42 : Int32) (F_X9_signAndZero w7 a3)).1 H locs ls hf hP hD hS (lv_sub hl [3] rfl)
  have J_c30 : ∀ (τ : XS) (w7 : Int64) (H : Heap) (locs : List Loc) (ls : Array Slot), F_X9_logic_c30 τ a0 a1 a2 a3 w7 = res → va_P z.1 vwCl (xW z r τ) H → va_D A (xW z r τ) → va_S A s.heap H locs → lv_has ls 9 [(0, .ref (r 7)), (5, .int a2), (6, .int (zB a3)), (7, .long w7)] → W p l e { frames := 2, cells := 0, slots := 0, locals := 42 } s m ([.ref (r 7), .long a0, .long a1, .int a2, .int (zB a3)] : List Value).toArray below meth c H locs 0 0 Q (F0 m 30 ls []) := by
    intro τ w7 H locs ls hf hP hD hS hl
    unfold F_X9_logic_c30 at hf
    refine lv_lload hx hb dX9_logic_30 (lv_at hl 3 rfl) ?_
    refine lv_iload hx hb dX9_logic_32 (lv_at hl 2 rfl) ?_
    refine k_X1_narrow (a0 := w7) (a1 := a3) S tl_X9_13 ⟨Nat.le_of_ble_eq_true rfl, Nat.le_of_ble_eq_true rfl⟩ hl.1 (Nat.le_of_ble_eq_true rfl) dX9_logic_34 ?_
    refine lv_lstore (lv' := [(7, .long (F_X1_narrow w7 a3)), (0, .ref (r 7)), (5, .int a2), (6, .int (zB a3))]) hx hb dX9_logic_37 hl (by decide) rfl (fun ls hl => ?_)
    exact J_c39 τ (F_X1_narrow w7 a3) H locs ls hf hP hD hS (lv_sub hl [1, 2, 3, 0] rfl)
  unfold F_X9_logic at hf
  refine lv_lload_n hx hb dX9_logic_0 rfl (lv_at hl 1 rfl) ?_
  refine lv_lload_n hx hb dX9_logic_1 rfl (lv_at hl 2 rfl) ?_
  refine lv_land hx hb dX9_logic_2 ?_
  refine lv_lstore (lv' := [(7, .long (a0 &&& a1)), (0, .ref (r 7)), (1, .long a0), (3, .long a1), (5, .int a2), (6, .int (zB a3))]) hx hb dX9_logic_3 hl (by decide) rfl (fun ls hl => ?_)
  refine lv_iload hx hb dX9_logic_5 (lv_at hl 4 rfl) ?_
  refine lv_iconst (v := 1) hx hb dX9_logic_7 (by decide) ?_
  refine lv_icmp_ne (tgt := 19) hx hb dX9_logic_8 (by decide) (fun c_8 => ?_) (fun c_8 => ?_)
  · rw [if_neg c_8] at hf
    refine lv_iload hx hb dX9_logic_19 (lv_at hl 4 rfl) ?_
    refine lv_iconst (v := 2) hx hb dX9_logic_21 (by decide) ?_
    refine lv_icmp_ne (tgt := 30) hx hb dX9_logic_22 (by decide) (fun c_22 => ?_) (fun c_22 => ?_)
    · rw [if_neg c_22] at hf
      exact J_c30 σ (a0 &&& a1) H locs ls hf hP hD hS (lv_sub hl [1, 4, 5, 0] rfl)
    · rw [if_pos c_22] at hf
      refine lv_lload_n hx hb dX9_logic_25 rfl (lv_at hl 2 rfl) ?_
      refine lv_lload_n hx hb dX9_logic_26 rfl (lv_at hl 3 rfl) ?_
      refine lv_lxor hx hb dX9_logic_27 ?_
      refine lv_lstore (lv' := [(7, .long (a0 ^^^ a1)), (0, .ref (r 7)), (1, .long a0), (3, .long a1), (5, .int a2), (6, .int (zB a3))]) hx hb dX9_logic_28 hl (by decide) rfl (fun ls hl => ?_)
      exact J_c30 σ (a0 ^^^ a1) H locs ls hf hP hD hS (lv_sub hl [1, 4, 5, 0] rfl)
  · rw [if_pos c_8] at hf
    refine lv_lload_n hx hb dX9_logic_11 rfl (lv_at hl 2 rfl) ?_
    refine lv_lload_n hx hb dX9_logic_12 rfl (lv_at hl 3 rfl) ?_
    refine lv_lor hx hb dX9_logic_13 ?_
    refine lv_lstore (lv' := [(7, .long (a0 ||| a1)), (0, .ref (r 7)), (1, .long a0), (3, .long a1), (5, .int a2), (6, .int (zB a3))]) hx hb dX9_logic_14 hl (by decide) rfl (fun ls hl => ?_)
    refine lv_goto (tgt := 30) hx hb dX9_logic_16 (by decide) ?_
    exact J_c30 σ (a0 ||| a1) H locs ls hf hP hD hS (lv_sub hl [1, 4, 5, 0] rfl)
theorem k_X9_logic {p : Program} {l : Launch} {e : Env} {R : Room} {s : State} {m : MethodId} {args : Array Value} {below : List Frame} {meth : Method} {c : Code} {H : Heap} {locs : List Loc} {Q : State → Prop} {cc : ByteArray} {pc : Nat} {ls : Array Slot} {rest : List Value} {own : String} {index nL : Nat} {A : Nat → Prop} {z : Cx} {r : Nat → Nat} {σ : XS} {a0 : Int64} {a1 : Int64} {a2 : Int32} {a3 : Bool} (S : CallFix p m c cc nL s args tbG own) (hK : va_K z.1 vwCl (cxT z) s) (hA : ∀ q, s.heap.size ≤ q → A q) (hP : va_P z.1 vwCl (xW z r σ) H) (hD : va_D A (xW z r σ)) (hS : va_S A s.heap H locs) (hl : Cond.methodLink own index yX9_logic ∈ tbG) (hR : 2 + 1 ≤ R.frames ∧ 8 + (9 + 11) + 42 ≤ R.locals) (hsz : ls.size = nL) (hcat : (rest.map fun v => v.category).sum ≤ 8) (hdg : decode cc pc = .ok (.invokevirtual index, 3)) (kk : ∀ (H : Heap) (locs : List Loc), va_P z.1 vwCl (xW z r (F_X9_logic σ a0 a1 a2 a3).2) H → va_D A (xW z r (F_X9_logic σ a0 a1 a2 a3).2) → va_S A s.heap H locs → W p l e R s m args below meth c H locs 0 0 Q (F0 m (pc + 3) ls (.long (F_X9_logic σ a0 a1 a2 a3).1 :: rest))) : W p l e R s m args below meth c H locs 0 0 Q (F0 m pc ls (.int (zB a3) :: .int a2 :: .long a1 :: .long a0 :: .ref (r 7) :: rest)) :=
  km (As := [.long a0, .long a1, .int a2, .int (zB a3)]) (ov := some (.long (F_X9_logic σ a0 a1 a2 a3).1)) (w' := xW z r (F_X9_logic σ a0 a1 a2 a3).2) (q0 := 7) (ci := 8) S hK hA hP hD hS (c_X9_logic l z r σ a0 a1 a2 a3 H.size _ rfl) ⟨tb_cB 4 S.2.2.2.2 tc_X9_logic ti_X9 hl rfl rfl (by decide +kernel) hR, S.2.2.2.2 _ tm_X9_logic, S.2.2.2.2 _ te_X9_logic⟩ rfl rfl rfl rfl hsz rfl hcat hdg kk

theorem dX5_masks_0 : decode cX5_masks 0 = .ok (.iload_n 1, 1) := by decide +kernel
theorem dX5_masks_1 : decode cX5_masks 1 = .ok (.invokestatic 46, 3) := by decide +kernel
theorem dX5_masks_4 : decode cX5_masks 4 = .ok (.lstore_n 2, 1) := by decide +kernel
theorem dX5_masks_5 : decode cX5_masks 5 = .ok (.lload_n 2, 1) := by decide +kernel
theorem dX5_masks_6 : decode cX5_masks 6 = .ok (.lconst 0, 1) := by decide +kernel
theorem dX5_masks_7 : decode cX5_masks 7 = .ok (.lcmp, 1) := by decide +kernel
theorem dX5_masks_8 : decode cX5_masks 8 = .ok (.ifCond .ne 5, 3) := by decide +kernel
theorem dX5_masks_11 : decode cX5_masks 11 = .ok (.iconst 0, 1) := by decide +kernel
theorem dX5_masks_12 : decode cX5_masks 12 = .ok (.ireturn, 1) := by decide +kernel
theorem dX5_masks_13 : decode cX5_masks 13 = .ok (.iload_n 1, 1) := by decide +kernel
theorem dX5_masks_14 : decode cX5_masks 14 = .ok (.bipush 29, 2) := by decide +kernel
theorem dX5_masks_16 : decode cX5_masks 16 = .ok (.iconst 2, 1) := by decide +kernel
theorem dX5_masks_17 : decode cX5_masks 17 = .ok (.invokestatic 23, 3) := by decide +kernel
theorem dX5_masks_20 : decode cX5_masks 20 = .ok (.istore 4, 2) := by decide +kernel
theorem dX5_masks_22 : decode cX5_masks 22 = .ok (.aload_n 0, 1) := by decide +kernel
theorem dX5_masks_23 : decode cX5_masks 23 = .ok (.getfield 7, 3) := by decide +kernel
theorem dX5_masks_26 : decode cX5_masks 26 = .ok (.iload_n 1, 1) := by decide +kernel
theorem dX5_masks_27 : decode cX5_masks 27 = .ok (.iconst 5, 1) := by decide +kernel
theorem dX5_masks_28 : decode cX5_masks 28 = .ok (.iconst 5, 1) := by decide +kernel
theorem dX5_masks_29 : decode cX5_masks 29 = .ok (.invokestatic 23, 3) := by decide +kernel
theorem dX5_masks_32 : decode cX5_masks 32 = .ok (.invokevirtual 49, 3) := by decide +kernel
theorem dX5_masks_35 : decode cX5_masks 35 = .ok (.lstore 5, 2) := by decide +kernel
theorem dX5_masks_37 : decode cX5_masks 37 = .ok (.aload_n 0, 1) := by decide +kernel
theorem dX5_masks_38 : decode cX5_masks 38 = .ok (.getfield 13, 3) := by decide +kernel
theorem dX5_masks_41 : decode cX5_masks 41 = .ok (.lload 5, 2) := by decide +kernel
theorem dX5_masks_43 : decode cX5_masks 43 = .ok (.lload_n 2, 1) := by decide +kernel
theorem dX5_masks_44 : decode cX5_masks 44 = .ok (.iload 4, 2) := by decide +kernel
theorem dX5_masks_46 : decode cX5_masks 46 = .ok (.iload_n 1, 1) := by decide +kernel
theorem dX5_masks_47 : decode cX5_masks 47 = .ok (.ifCond .ge 7, 3) := by decide +kernel
theorem dX5_masks_50 : decode cX5_masks 50 = .ok (.iconst 1, 1) := by decide +kernel
theorem dX5_masks_51 : decode cX5_masks 51 = .ok (.goto 4, 3) := by decide +kernel
theorem dX5_masks_54 : decode cX5_masks 54 = .ok (.iconst 0, 1) := by decide +kernel
theorem dX5_masks_55 : decode cX5_masks 55 = .ok (.invokevirtual 52, 3) := by decide +kernel
theorem dX5_masks_58 : decode cX5_masks 58 = .ok (.lstore 7, 2) := by decide +kernel
theorem dX5_masks_60 : decode cX5_masks 60 = .ok (.iload 4, 2) := by decide +kernel
theorem dX5_masks_62 : decode cX5_masks 62 = .ok (.iconst 3, 1) := by decide +kernel
theorem dX5_masks_63 : decode cX5_masks 63 = .ok (.if_icmp .ne 21, 3) := by decide +kernel
theorem dX5_masks_66 : decode cX5_masks 66 = .ok (.aload_n 0, 1) := by decide +kernel
theorem dX5_masks_67 : decode cX5_masks 67 = .ok (.getfield 7, 3) := by decide +kernel
theorem dX5_masks_70 : decode cX5_masks 70 = .ok (.iload_n 1, 1) := by decide +kernel
theorem dX5_masks_71 : decode cX5_masks 71 = .ok (.iconst 0, 1) := by decide +kernel
theorem dX5_masks_72 : decode cX5_masks 72 = .ok (.iconst 5, 1) := by decide +kernel
theorem dX5_masks_73 : decode cX5_masks 73 = .ok (.invokestatic 23, 3) := by decide +kernel
theorem dX5_masks_76 : decode cX5_masks 76 = .ok (.lload 7, 2) := by decide +kernel
theorem dX5_masks_78 : decode cX5_masks 78 = .ok (.invokevirtual 39, 3) := by decide +kernel
theorem dX5_masks_81 : decode cX5_masks 81 = .ok (.goto 18, 3) := by decide +kernel
theorem dX5_masks_84 : decode cX5_masks 84 = .ok (.aload_n 0, 1) := by decide +kernel
theorem dX5_masks_85 : decode cX5_masks 85 = .ok (.getfield 7, 3) := by decide +kernel
theorem dX5_masks_88 : decode cX5_masks 88 = .ok (.iload_n 1, 1) := by decide +kernel
theorem dX5_masks_89 : decode cX5_masks 89 = .ok (.iconst 0, 1) := by decide +kernel
theorem dX5_masks_90 : decode cX5_masks 90 = .ok (.iconst 5, 1) := by decide +kernel
theorem dX5_masks_91 : decode cX5_masks 91 = .ok (.invokestatic 23, 3) := by decide +kernel
theorem dX5_masks_94 : decode cX5_masks 94 = .ok (.lload 7, 2) := by decide +kernel
theorem dX5_masks_96 : decode cX5_masks 96 = .ok (.invokevirtual 43, 3) := by decide +kernel
theorem dX5_masks_99 : decode cX5_masks 99 = .ok (.iconst 1, 1) := by decide +kernel
theorem dX5_masks_100 : decode cX5_masks 100 = .ok (.ireturn, 1) := by decide +kernel
def F_X5_masks_c99 (τ : XS) (a0 : Int32) : Bool × XS := (true, τ)
def F_X5_masks_c81 (τ : XS) (a0 : Int32) : Bool × XS := (true, τ)
def F_X5_masks_c60 (τ : XS) (a0 : Int32) (w4 : Int32) (w7 : Int64) : Bool × XS := (if w4 = (3 : Int32) then (F_X5_masks_c81 (F_X8_putRegister τ (F_X1_field a0 (0 : Int32) (5 : Int32)) w7) a0) else (F_X5_masks_c99 (F_X8_putRegisterOrStack τ (F_X1_field a0 (0 : Int32) (5 : Int32)) w7) a0))
def F_X5_masks_c55 (τ : XS) (a0 : Int32) (w4 : Int32) (s1 : Int64) (s2 : Int64) (s3 : Int32) (s4 : Bool) : Bool × XS := (F_X5_masks_c60 (F_X9_logic τ s1 s2 s3 s4).2 a0 w4 (F_X9_logic τ s1 s2 s3 s4).1)
def F_X5_masks_c22 (τ : XS) (a0 : Int32) (w2 : Int64) (w4 : Int32) : Bool × XS := (if 0 ≤ a0 then (F_X5_masks_c55 τ a0 w4 (F_X8_register τ (F_X1_field a0 (5 : Int32) (5 : Int32))) w2 w4 false) else (F_X5_masks_c55 τ a0 w4 (F_X8_register τ (F_X1_field a0 (5 : Int32) (5 : Int32))) w2 w4 true))
def F_X5_masks (σ : XS) (a0 : Int32) : Bool × XS := (if (F_X5_mask a0) = (0 : Int64) then (false, σ) else (F_X5_masks_c22 σ a0 (F_X5_mask a0) (F_X1_field a0 (29 : Int32) (2 : Int32))))
set_option maxHeartbeats 4000000 in
set_option maxRecDepth 100000 in
theorem c_X5_masks (l : Launch) (z : Cx) (r : Nat → Nat) (σ : XS) (a0 : Int32) (sz : Nat) (res : Bool × XS) (hf : F_X5_masks σ a0 = res) : Met l yX5_masks (wsC yX5_masks cX5_masks 9 (some .boolean)) { frames := 3, cells := 0, slots := 0, locals := 70 } (mPc z (xW z r σ) sz [.ref (r 8), .int a0]) (gM z (va_A (xW z r σ) sz) (some (.int (zB res.1))) (xW z r res.2)) 0 0 (va_A (xW z r σ) sz) := by
  refine mk_m_z (own := RX5) (wf := xW z r) (by decide) rfl sz _ (Nat.le_of_ble_eq_true rfl) (fun p e s m below meth c A H locs Q ls S hK hA hP hD hS hl hend => ?_)
  have hx := S.1
  have hb := S.2.1
  have hown := S.2.2.2.1
  have hts := S.2.2.2.2
  have hl : lv_has ls 9 [(0, .ref (r 8)), (1, .int a0)] := hl
  have J_c99 : ∀ (τ : XS) (H : Heap) (locs : List Loc) (ls : Array Slot), F_X5_masks_c99 τ a0 = res → va_P z.1 vwCl (xW z r τ) H → va_D A (xW z r τ) → va_S A s.heap H locs → lv_has ls 9 [] → W p l e { frames := 3, cells := 0, slots := 0, locals := 70 } s m ([.ref (r 8), .int a0] : List Value).toArray below meth c H locs 0 0 Q (F0 m 99 ls []) := by
    intro τ H locs ls hf hP hD hS hl
    unfold F_X5_masks_c99 at hf
    refine lv_iconst (v := 1) hx hb dX5_masks_99 (by decide) ?_
    exact hend true τ H locs 100 ls hf hP hD hS dX5_masks_100
  have J_c81 : ∀ (τ : XS) (H : Heap) (locs : List Loc) (ls : Array Slot), F_X5_masks_c81 τ a0 = res → va_P z.1 vwCl (xW z r τ) H → va_D A (xW z r τ) → va_S A s.heap H locs → lv_has ls 9 [] → W p l e { frames := 3, cells := 0, slots := 0, locals := 70 } s m ([.ref (r 8), .int a0] : List Value).toArray below meth c H locs 0 0 Q (F0 m 81 ls []) := by
    intro τ H locs ls hf hP hD hS hl
    unfold F_X5_masks_c81 at hf
    refine lv_goto (tgt := 99) hx hb dX5_masks_81 (by decide) ?_
    refine lv_iconst (v := 1) hx hb dX5_masks_99 (by decide) ?_
    exact hend true τ H locs 100 ls hf hP hD hS dX5_masks_100
  have J_c60 : ∀ (τ : XS) (w4 : Int32) (w7 : Int64) (H : Heap) (locs : List Loc) (ls : Array Slot), F_X5_masks_c60 τ a0 w4 w7 = res → va_P z.1 vwCl (xW z r τ) H → va_D A (xW z r τ) → va_S A s.heap H locs → lv_has ls 9 [(0, .ref (r 8)), (1, .int a0), (4, .int w4), (7, .long w7)] → W p l e { frames := 3, cells := 0, slots := 0, locals := 70 } s m ([.ref (r 8), .int a0] : List Value).toArray below meth c H locs 0 0 Q (F0 m 60 ls []) := by
    intro τ w4 w7 H locs ls hf hP hD hS hl
    unfold F_X5_masks_c60 at hf
    refine lv_iload hx hb dX5_masks_60 (lv_at hl 2 rfl) ?_
    refine lv_iconst (v := 3) hx hb dX5_masks_62 (by decide) ?_
    refine lv_icmp_ne (tgt := 84) hx hb dX5_masks_63 (by decide) (fun c_63 => ?_) (fun c_63 => ?_)
    · rw [if_neg c_63] at hf
      refine lv_aload_n hx hb dX5_masks_84 rfl (lv_at hl 0 rfl) ?_
      refine fg_X5_state S hK hP tf_X5_7 dX5_masks_85 ?_
      refine lv_iload_n hx hb dX5_masks_88 rfl (lv_at hl 1 rfl) ?_
      refine lv_iconst (v := 0) hx hb dX5_masks_89 (by decide) ?_
      refine lv_iconst (v := 5) hx hb dX5_masks_90 (by decide) ?_
      refine k_X1_field (a0 := a0) (a1 := (0 : Int32)) (a2 := (5 : Int32)) S tl_X5_23 ⟨Nat.le_of_ble_eq_true rfl, Nat.le_of_ble_eq_true rfl⟩ hl.1 (Nat.le_of_ble_eq_true rfl) dX5_masks_91 ?_
      refine lv_lload hx hb dX5_masks_94 (lv_at hl 3 rfl) ?_
      refine k_X8_putRegisterOrStack (a0 := (F_X1_field a0 (0 : Int32) (5 : Int32))) (a1 := w7) S hK hA hP hD hS tl_X5_43 ⟨Nat.le_of_ble_eq_true rfl, Nat.le_of_ble_eq_true rfl⟩ hl.1 (Nat.le_of_ble_eq_true rfl) dX5_masks_96 (fun H locs hP hD hS => ?_)
      exact J_c99 (F_X8_putRegisterOrStack τ (F_X1_field a0 (0 : Int32) (5 : Int32)) w7) H locs ls hf hP hD hS (lv_sub hl [] rfl)
    · rw [if_pos c_63] at hf
      refine lv_aload_n hx hb dX5_masks_66 rfl (lv_at hl 0 rfl) ?_
      refine fg_X5_state S hK hP tf_X5_7 dX5_masks_67 ?_
      refine lv_iload_n hx hb dX5_masks_70 rfl (lv_at hl 1 rfl) ?_
      refine lv_iconst (v := 0) hx hb dX5_masks_71 (by decide) ?_
      refine lv_iconst (v := 5) hx hb dX5_masks_72 (by decide) ?_
      refine k_X1_field (a0 := a0) (a1 := (0 : Int32)) (a2 := (5 : Int32)) S tl_X5_23 ⟨Nat.le_of_ble_eq_true rfl, Nat.le_of_ble_eq_true rfl⟩ hl.1 (Nat.le_of_ble_eq_true rfl) dX5_masks_73 ?_
      refine lv_lload hx hb dX5_masks_76 (lv_at hl 3 rfl) ?_
      refine k_X8_putRegister (a0 := (F_X1_field a0 (0 : Int32) (5 : Int32))) (a1 := w7) S hK hA hP hD hS tl_X5_39 ⟨Nat.le_of_ble_eq_true rfl, Nat.le_of_ble_eq_true rfl⟩ hl.1 (Nat.le_of_ble_eq_true rfl) dX5_masks_78 (fun H locs hP hD hS => ?_)
      exact J_c81 (F_X8_putRegister τ (F_X1_field a0 (0 : Int32) (5 : Int32)) w7) H locs ls hf hP hD hS (lv_sub hl [] rfl)
  have J_c55 : ∀ (τ : XS) (w4 : Int32) (s1 : Int64) (s2 : Int64) (s3 : Int32) (s4 : Bool) (H : Heap) (locs : List Loc) (ls : Array Slot), F_X5_masks_c55 τ a0 w4 s1 s2 s3 s4 = res → va_P z.1 vwCl (xW z r τ) H → va_D A (xW z r τ) → va_S A s.heap H locs → lv_has ls 9 [(0, .ref (r 8)), (1, .int a0), (4, .int w4)] → W p l e { frames := 3, cells := 0, slots := 0, locals := 70 } s m ([.ref (r 8), .int a0] : List Value).toArray below meth c H locs 0 0 Q (F0 m 55 ls [.int (zB s4), .int s3, .long s2, .long s1, .ref (r 7)]) := by
    intro τ w4 s1 s2 s3 s4 H locs ls hf hP hD hS hl
    unfold F_X5_masks_c55 at hf
    refine k_X9_logic (a0 := s1) (a1 := s2) (a2 := s3) (a3 := s4) S hK hA hP hD hS tl_X5_52 ⟨Nat.le_of_ble_eq_true rfl, Nat.le_of_ble_eq_true rfl⟩ hl.1 (Nat.le_of_ble_eq_true rfl) dX5_masks_55 (fun H locs hP hD hS => ?_)
    refine lv_lstore (lv' := [(7, .long (F_X9_logic τ s1 s2 s3 s4).1), (0, .ref (r 8)), (1, .int a0), (4, .int w4)]) hx hb dX5_masks_58 hl (by decide) rfl (fun ls hl => ?_)
    exact J_c60 (F_X9_logic τ s1 s2 s3 s4).2 w4 (F_X9_logic τ s1 s2 s3 s4).1 H locs ls hf hP hD hS (lv_sub hl [1, 2, 3, 0] rfl)
  have J_c22 : ∀ (τ : XS) (w2 : Int64) (w4 : Int32) (H : Heap) (locs : List Loc) (ls : Array Slot), F_X5_masks_c22 τ a0 w2 w4 = res → va_P z.1 vwCl (xW z r τ) H → va_D A (xW z r τ) → va_S A s.heap H locs → lv_has ls 9 [(0, .ref (r 8)), (1, .int a0), (2, .long w2), (4, .int w4)] → W p l e { frames := 3, cells := 0, slots := 0, locals := 70 } s m ([.ref (r 8), .int a0] : List Value).toArray below meth c H locs 0 0 Q (F0 m 22 ls []) := by
    intro τ w2 w4 H locs ls hf hP hD hS hl
    unfold F_X5_masks_c22 at hf
    refine lv_aload_n hx hb dX5_masks_22 rfl (lv_at hl 0 rfl) ?_
    refine fg_X5_state S hK hP tf_X5_7 dX5_masks_23 ?_
    refine lv_iload_n hx hb dX5_masks_26 rfl (lv_at hl 1 rfl) ?_
    refine lv_iconst (v := 5) hx hb dX5_masks_27 (by decide) ?_
    refine lv_iconst (v := 5) hx hb dX5_masks_28 (by decide) ?_
    refine k_X1_field (a0 := a0) (a1 := (5 : Int32)) (a2 := (5 : Int32)) S tl_X5_23 ⟨Nat.le_of_ble_eq_true rfl, Nat.le_of_ble_eq_true rfl⟩ hl.1 (Nat.le_of_ble_eq_true rfl) dX5_masks_29 ?_
    refine k_X8_register (a0 := (F_X1_field a0 (5 : Int32) (5 : Int32))) S hK hP tl_X5_49 ⟨Nat.le_of_ble_eq_true rfl, Nat.le_of_ble_eq_true rfl⟩ hl.1 (Nat.le_of_ble_eq_true rfl) dX5_masks_32 ?_
    refine lv_lstore (lv' := [(5, .long (F_X8_register τ (F_X1_field a0 (5 : Int32) (5 : Int32)))), (0, .ref (r 8)), (1, .int a0), (2, .long w2), (4, .int w4)]) hx hb dX5_masks_35 hl (by decide) rfl (fun ls hl => ?_)
    refine lv_aload_n hx hb dX5_masks_37 rfl (lv_at hl 1 rfl) ?_
    refine fg_X5_sums S hK hP tf_X5_13 dX5_masks_38 ?_
    refine lv_lload hx hb dX5_masks_41 (lv_at hl 0 rfl) ?_
    refine lv_lload_n hx hb dX5_masks_43 rfl (lv_at hl 3 rfl) ?_
    refine lv_iload hx hb dX5_masks_44 (lv_at hl 4 rfl) ?_
    refine lv_iload_n hx hb dX5_masks_46 rfl (lv_at hl 2 rfl) ?_
    refine lv_if_ge (tgt := 54) hx hb dX5_masks_47 (by decide) (fun c_47 => ?_) (fun c_47 => ?_)
    · rw [if_pos c_47] at hf
      refine lv_iconst (v := 0) hx hb dX5_masks_54 (by decide) ?_
      exact J_c55 τ w4 (F_X8_register τ (F_X1_field a0 (5 : Int32) (5 : Int32))) w2 w4 false H locs ls hf hP hD hS (lv_sub hl [1, 2, 4] rfl)
    · rw [if_neg c_47] at hf
      refine lv_iconst (v := 1) hx hb dX5_masks_50 (by decide) ?_
      refine lv_goto (tgt := 55) hx hb dX5_masks_51 (by decide) ?_
      exact J_c55 τ w4 (F_X8_register τ (F_X1_field a0 (5 : Int32) (5 : Int32))) w2 w4 true H locs ls hf hP hD hS (lv_sub hl [1, 2, 4] rfl)
  unfold F_X5_masks at hf
  refine lv_iload_n hx hb dX5_masks_0 rfl (lv_at hl 1 rfl) ?_
  refine k_X5_mask (a0 := a0) S tl_X5_46 ⟨Nat.le_of_ble_eq_true rfl, Nat.le_of_ble_eq_true rfl⟩ hl.1 (Nat.le_of_ble_eq_true rfl) dX5_masks_1 ?_
  refine lv_lstore_n (lv' := [(2, .long (F_X5_mask a0)), (0, .ref (r 8)), (1, .int a0)]) hx hb dX5_masks_4 rfl hl (by decide) rfl (fun ls hl => ?_)
  refine lv_lload_n hx hb dX5_masks_5 rfl (lv_at hl 0 rfl) ?_
  refine lv_lconst (v := 0) hx hb dX5_masks_6 (by decide) ?_
  refine gl_ne (tgt := 13) hx hb dX5_masks_7 dX5_masks_8 (by decide) (fun c_7 => ?_) (fun c_7 => ?_)
  · rw [if_neg c_7] at hf
    refine lv_iload_n hx hb dX5_masks_13 rfl (lv_at hl 2 rfl) ?_
    refine lv_bipush (v := 29) hx hb dX5_masks_14 (by decide) ?_
    refine lv_iconst (v := 2) hx hb dX5_masks_16 (by decide) ?_
    refine k_X1_field (a0 := a0) (a1 := (29 : Int32)) (a2 := (2 : Int32)) S tl_X5_23 ⟨Nat.le_of_ble_eq_true rfl, Nat.le_of_ble_eq_true rfl⟩ hl.1 (Nat.le_of_ble_eq_true rfl) dX5_masks_17 ?_
    refine lv_istore (lv' := [(4, .int (F_X1_field a0 (29 : Int32) (2 : Int32))), (2, .long (F_X5_mask a0)), (0, .ref (r 8)), (1, .int a0)]) hx hb dX5_masks_20 hl (by decide) rfl (fun ls hl => ?_)
    exact J_c22 σ (F_X5_mask a0) (F_X1_field a0 (29 : Int32) (2 : Int32)) H locs ls hf hP hD hS (lv_sub hl [2, 3, 1, 0] rfl)
  · rw [if_pos c_7] at hf
    refine lv_iconst (v := 0) hx hb dX5_masks_11 (by decide) ?_
    exact hend false σ H locs 12 ls hf hP hD hS dX5_masks_12
theorem k_X5_masks {p : Program} {l : Launch} {e : Env} {R : Room} {s : State} {m : MethodId} {args : Array Value} {below : List Frame} {meth : Method} {c : Code} {H : Heap} {locs : List Loc} {Q : State → Prop} {cc : ByteArray} {pc : Nat} {ls : Array Slot} {rest : List Value} {own : String} {index nL : Nat} {A : Nat → Prop} {z : Cx} {r : Nat → Nat} {σ : XS} {a0 : Int32} (S : CallFix p m c cc nL s args tbG own) (hK : va_K z.1 vwCl (cxT z) s) (hA : ∀ q, s.heap.size ≤ q → A q) (hP : va_P z.1 vwCl (xW z r σ) H) (hD : va_D A (xW z r σ)) (hS : va_S A s.heap H locs) (hl : Cond.methodLink own index yX5_masks ∈ tbG) (hR : 3 + 1 ≤ R.frames ∧ 8 + (9 + 11) + 70 ≤ R.locals) (hsz : ls.size = nL) (hcat : (rest.map fun v => v.category).sum ≤ 8) (hdg : decode cc pc = .ok (.invokevirtual index, 3)) (kk : ∀ (H : Heap) (locs : List Loc), va_P z.1 vwCl (xW z r (F_X5_masks σ a0).2) H → va_D A (xW z r (F_X5_masks σ a0).2) → va_S A s.heap H locs → W p l e R s m args below meth c H locs 0 0 Q (F0 m (pc + 3) ls (.int (zB (F_X5_masks σ a0).1) :: rest))) : W p l e R s m args below meth c H locs 0 0 Q (F0 m pc ls (.int a0 :: .ref (r 8) :: rest)) :=
  km (As := [.int a0]) (ov := some (.int (zB (F_X5_masks σ a0).1))) (w' := xW z r (F_X5_masks σ a0).2) (q0 := 8) (ci := 4) S hK hA hP hD hS (c_X5_masks l z r σ a0 H.size _ rfl) ⟨tb_cB 1 S.2.2.2.2 tc_X5_masks ti_X5 hl rfl rfl (by decide +kernel) hR, S.2.2.2.2 _ tm_X5_masks, S.2.2.2.2 _ te_X5_masks⟩ rfl rfl rfl rfl hsz rfl hcat hdg kk

theorem dX5_move_0 : decode cX5_move 0 = .ok (.iload_n 1, 1) := by decide +kernel
theorem dX5_move_1 : decode cX5_move 1 = .ok (.ifCond .ge 7, 3) := by decide +kernel
theorem dX5_move_4 : decode cX5_move 4 = .ok (.iconst 1, 1) := by decide +kernel
theorem dX5_move_5 : decode cX5_move 5 = .ok (.goto 4, 3) := by decide +kernel
theorem dX5_move_8 : decode cX5_move 8 = .ok (.iconst 0, 1) := by decide +kernel
theorem dX5_move_9 : decode cX5_move 9 = .ok (.istore_n 2, 1) := by decide +kernel
theorem dX5_move_10 : decode cX5_move 10 = .ok (.iload_n 1, 1) := by decide +kernel
theorem dX5_move_11 : decode cX5_move 11 = .ok (.bipush 29, 2) := by decide +kernel
theorem dX5_move_13 : decode cX5_move 13 = .ok (.iconst 2, 1) := by decide +kernel
theorem dX5_move_14 : decode cX5_move 14 = .ok (.invokestatic 23, 3) := by decide +kernel
theorem dX5_move_17 : decode cX5_move 17 = .ok (.istore_n 3, 1) := by decide +kernel
theorem dX5_move_18 : decode cX5_move 18 = .ok (.bipush 16, 2) := by decide +kernel
theorem dX5_move_20 : decode cX5_move 20 = .ok (.iload_n 1, 1) := by decide +kernel
theorem dX5_move_21 : decode cX5_move 21 = .ok (.bipush 21, 2) := by decide +kernel
theorem dX5_move_23 : decode cX5_move 23 = .ok (.iconst 2, 1) := by decide +kernel
theorem dX5_move_24 : decode cX5_move 24 = .ok (.invokestatic 23, 3) := by decide +kernel
theorem dX5_move_27 : decode cX5_move 27 = .ok (.imul, 1) := by decide +kernel
theorem dX5_move_28 : decode cX5_move 28 = .ok (.istore 4, 2) := by decide +kernel
theorem dX5_move_30 : decode cX5_move 30 = .ok (.iload_n 3, 1) := by decide +kernel
theorem dX5_move_31 : decode cX5_move 31 = .ok (.iconst 1, 1) := by decide +kernel
theorem dX5_move_32 : decode cX5_move 32 = .ok (.if_icmp .eq 12, 3) := by decide +kernel
theorem dX5_move_35 : decode cX5_move 35 = .ok (.iload 4, 2) := by decide +kernel
theorem dX5_move_37 : decode cX5_move 37 = .ok (.iload_n 2, 1) := by decide +kernel
theorem dX5_move_38 : decode cX5_move 38 = .ok (.invokestatic 65, 3) := by decide +kernel
theorem dX5_move_41 : decode cX5_move 41 = .ok (.if_icmp .lt 5, 3) := by decide +kernel
theorem dX5_move_44 : decode cX5_move 44 = .ok (.iconst 0, 1) := by decide +kernel
theorem dX5_move_45 : decode cX5_move 45 = .ok (.ireturn, 1) := by decide +kernel
theorem dX5_move_46 : decode cX5_move 46 = .ok (.iload_n 1, 1) := by decide +kernel
theorem dX5_move_47 : decode cX5_move 47 = .ok (.iconst 0, 1) := by decide +kernel
theorem dX5_move_48 : decode cX5_move 48 = .ok (.iconst 5, 1) := by decide +kernel
theorem dX5_move_49 : decode cX5_move 49 = .ok (.invokestatic 23, 3) := by decide +kernel
theorem dX5_move_52 : decode cX5_move 52 = .ok (.istore 5, 2) := by decide +kernel
theorem dX5_move_54 : decode cX5_move 54 = .ok (.iload_n 1, 1) := by decide +kernel
theorem dX5_move_55 : decode cX5_move 55 = .ok (.iconst 5, 1) := by decide +kernel
theorem dX5_move_56 : decode cX5_move 56 = .ok (.bipush 16, 2) := by decide +kernel
theorem dX5_move_58 : decode cX5_move 58 = .ok (.invokestatic 23, 3) := by decide +kernel
theorem dX5_move_61 : decode cX5_move 61 = .ok (.i2l, 1) := by decide +kernel
theorem dX5_move_62 : decode cX5_move 62 = .ok (.iload 4, 2) := by decide +kernel
theorem dX5_move_64 : decode cX5_move 64 = .ok (.lshl, 1) := by decide +kernel
theorem dX5_move_65 : decode cX5_move 65 = .ok (.lstore 6, 2) := by decide +kernel
theorem dX5_move_67 : decode cX5_move 67 = .ok (.iload_n 3, 1) := by decide +kernel
theorem dX5_move_68 : decode cX5_move 68 = .ok (.ifCond .ne 14, 3) := by decide +kernel
theorem dX5_move_71 : decode cX5_move 71 = .ok (.lload 6, 2) := by decide +kernel
theorem dX5_move_73 : decode cX5_move 73 = .ok (.ldc2_w 69, 3) := by decide +kernel
theorem dX5_move_76 : decode cX5_move 76 = .ok (.lxor, 1) := by decide +kernel
theorem dX5_move_77 : decode cX5_move 77 = .ok (.lstore 6, 2) := by decide +kernel
theorem dX5_move_79 : decode cX5_move 79 = .ok (.goto 33, 3) := by decide +kernel
theorem dX5_move_82 : decode cX5_move 82 = .ok (.iload_n 3, 1) := by decide +kernel
theorem dX5_move_83 : decode cX5_move 83 = .ok (.iconst 3, 1) := by decide +kernel
theorem dX5_move_84 : decode cX5_move 84 = .ok (.if_icmp .ne 28, 3) := by decide +kernel
theorem dX5_move_87 : decode cX5_move 87 = .ok (.lload 6, 2) := by decide +kernel
theorem dX5_move_89 : decode cX5_move 89 = .ok (.aload_n 0, 1) := by decide +kernel
theorem dX5_move_90 : decode cX5_move 90 = .ok (.getfield 7, 3) := by decide +kernel
theorem dX5_move_93 : decode cX5_move 93 = .ok (.iload 5, 2) := by decide +kernel
theorem dX5_move_95 : decode cX5_move 95 = .ok (.invokevirtual 49, 3) := by decide +kernel
theorem dX5_move_98 : decode cX5_move 98 = .ok (.ldc2_w 71, 3) := by decide +kernel
theorem dX5_move_101 : decode cX5_move 101 = .ok (.iload 4, 2) := by decide +kernel
theorem dX5_move_103 : decode cX5_move 103 = .ok (.lshl, 1) := by decide +kernel
theorem dX5_move_104 : decode cX5_move 104 = .ok (.ldc2_w 69, 3) := by decide +kernel
theorem dX5_move_107 : decode cX5_move 107 = .ok (.lxor, 1) := by decide +kernel
theorem dX5_move_108 : decode cX5_move 108 = .ok (.land, 1) := by decide +kernel
theorem dX5_move_109 : decode cX5_move 109 = .ok (.lor, 1) := by decide +kernel
theorem dX5_move_110 : decode cX5_move 110 = .ok (.lstore 6, 2) := by decide +kernel
theorem dX5_move_112 : decode cX5_move 112 = .ok (.aload_n 0, 1) := by decide +kernel
theorem dX5_move_113 : decode cX5_move 113 = .ok (.getfield 7, 3) := by decide +kernel
theorem dX5_move_116 : decode cX5_move 116 = .ok (.iload 5, 2) := by decide +kernel
theorem dX5_move_118 : decode cX5_move 118 = .ok (.lload 6, 2) := by decide +kernel
theorem dX5_move_120 : decode cX5_move 120 = .ok (.iload_n 2, 1) := by decide +kernel
theorem dX5_move_121 : decode cX5_move 121 = .ok (.invokestatic 73, 3) := by decide +kernel
theorem dX5_move_124 : decode cX5_move 124 = .ok (.invokevirtual 39, 3) := by decide +kernel
theorem dX5_move_127 : decode cX5_move 127 = .ok (.iconst 1, 1) := by decide +kernel
theorem dX5_move_128 : decode cX5_move 128 = .ok (.ireturn, 1) := by decide +kernel
def F_X5_move_c127 (τ : XS) (a0 : Int32) : Bool × XS := (true, τ)
def F_X5_move_c112 (τ : XS) (a0 : Int32) (w2 : Bool) (w5 : Int32) (w6 : Int64) : Bool × XS := (F_X5_move_c127 (F_X8_putRegister τ w5 (F_X1_narrow w6 w2)) a0)
def F_X5_move_c79 (τ : XS) (a0 : Int32) (w2 : Bool) (w5 : Int32) (w6 : Int64) : Bool × XS := (F_X5_move_c112 τ a0 w2 w5 w6)
def F_X5_move_c67 (τ : XS) (a0 : Int32) (w2 : Bool) (w3 : Int32) (w4 : Int32) (w5 : Int32) (w6 : Int64) : Bool × XS := (if w3 = 0 then (F_X5_move_c79 τ a0 w2 w5 (w6 ^^^ (-1 : Int64))) else (if w3 = (3 : Int32) then (F_X5_move_c112 τ a0 w2 w5 (w6 ||| ((F_X8_register τ w5) &&& ((j_lshl (65535 : Int64) w4) ^^^ (-1 : Int64))))) else (F_X5_move_c112 τ a0 w2 w5 w6)))
def F_X5_move_c54 (τ : XS) (a0 : Int32) (w2 : Bool) (w3 : Int32) (w4 : Int32) (w5 : Int32) : Bool × XS := (F_X5_move_c67 τ a0 w2 w3 w4 w5 (j_lshl (F_X1_field a0 (5 : Int32) (16 : Int32)).toInt64 w4))
def F_X5_move_c30 (τ : XS) (a0 : Int32) (w2 : Bool) (w3 : Int32) (w4 : Int32) : Bool × XS := (if w3 = (1 : Int32) then (false, τ) else (if w4 < (F_X1_width w2) then (F_X5_move_c54 τ a0 w2 w3 w4 (F_X1_field a0 (0 : Int32) (5 : Int32))) else (false, τ)))
def F_X5_move_c18 (τ : XS) (a0 : Int32) (w2 : Bool) (w3 : Int32) : Bool × XS := (F_X5_move_c30 τ a0 w2 w3 ((16 : Int32) * (F_X1_field a0 (21 : Int32) (2 : Int32))))
def F_X5_move_c9 (τ : XS) (a0 : Int32) (s0 : Bool) : Bool × XS := (F_X5_move_c18 τ a0 s0 (F_X1_field a0 (29 : Int32) (2 : Int32)))
def F_X5_move (σ : XS) (a0 : Int32) : Bool × XS := (if 0 ≤ a0 then (F_X5_move_c9 σ a0 false) else (F_X5_move_c9 σ a0 true))
set_option maxHeartbeats 4000000 in
set_option maxRecDepth 100000 in
theorem c_X5_move (l : Launch) (z : Cx) (r : Nat → Nat) (σ : XS) (a0 : Int32) (sz : Nat) (res : Bool × XS) (hf : F_X5_move σ a0 = res) : Met l yX5_move (wsC yX5_move cX5_move 8 (some .boolean)) { frames := 2, cells := 0, slots := 0, locals := 46 } (mPc z (xW z r σ) sz [.ref (r 8), .int a0]) (gM z (va_A (xW z r σ) sz) (some (.int (zB res.1))) (xW z r res.2)) 0 0 (va_A (xW z r σ) sz) := by
  refine mk_m_z (own := RX5) (wf := xW z r) (by decide) rfl sz _ (Nat.le_of_ble_eq_true rfl) (fun p e s m below meth c A H locs Q ls S hK hA hP hD hS hl hend => ?_)
  have hx := S.1
  have hb := S.2.1
  have hown := S.2.2.2.1
  have hts := S.2.2.2.2
  have hl : lv_has ls 8 [(0, .ref (r 8)), (1, .int a0)] := hl
  have J_c127 : ∀ (τ : XS) (H : Heap) (locs : List Loc) (ls : Array Slot), F_X5_move_c127 τ a0 = res → va_P z.1 vwCl (xW z r τ) H → va_D A (xW z r τ) → va_S A s.heap H locs → lv_has ls 8 [] → W p l e { frames := 2, cells := 0, slots := 0, locals := 46 } s m ([.ref (r 8), .int a0] : List Value).toArray below meth c H locs 0 0 Q (F0 m 127 ls []) := by
    intro τ H locs ls hf hP hD hS hl
    unfold F_X5_move_c127 at hf
    refine lv_iconst (v := 1) hx hb dX5_move_127 (by decide) ?_
    exact hend true τ H locs 128 ls hf hP hD hS dX5_move_128
  have J_c112 : ∀ (τ : XS) (w2 : Bool) (w5 : Int32) (w6 : Int64) (H : Heap) (locs : List Loc) (ls : Array Slot), F_X5_move_c112 τ a0 w2 w5 w6 = res → va_P z.1 vwCl (xW z r τ) H → va_D A (xW z r τ) → va_S A s.heap H locs → lv_has ls 8 [(0, .ref (r 8)), (2, .int (zB w2)), (5, .int w5), (6, .long w6)] → W p l e { frames := 2, cells := 0, slots := 0, locals := 46 } s m ([.ref (r 8), .int a0] : List Value).toArray below meth c H locs 0 0 Q (F0 m 112 ls []) := by
    intro τ w2 w5 w6 H locs ls hf hP hD hS hl
    unfold F_X5_move_c112 at hf
    refine lv_aload_n hx hb dX5_move_112 rfl (lv_at hl 0 rfl) ?_
    refine fg_X5_state S hK hP tf_X5_7 dX5_move_113 ?_
    refine lv_iload hx hb dX5_move_116 (lv_at hl 2 rfl) ?_
    refine lv_lload hx hb dX5_move_118 (lv_at hl 3 rfl) ?_
    refine lv_iload_n hx hb dX5_move_120 rfl (lv_at hl 1 rfl) ?_
    refine k_X1_narrow (a0 := w6) (a1 := w2) S tl_X5_73 ⟨Nat.le_of_ble_eq_true rfl, Nat.le_of_ble_eq_true rfl⟩ hl.1 (Nat.le_of_ble_eq_true rfl) dX5_move_121 ?_
    refine k_X8_putRegister (a0 := w5) (a1 := (F_X1_narrow w6 w2)) S hK hA hP hD hS tl_X5_39 ⟨Nat.le_of_ble_eq_true rfl, Nat.le_of_ble_eq_true rfl⟩ hl.1 (Nat.le_of_ble_eq_true rfl) dX5_move_124 (fun H locs hP hD hS => ?_)
    exact J_c127 (F_X8_putRegister τ w5 (F_X1_narrow w6 w2)) H locs ls hf hP hD hS (lv_sub hl [] rfl)
  have J_c79 : ∀ (τ : XS) (w2 : Bool) (w5 : Int32) (w6 : Int64) (H : Heap) (locs : List Loc) (ls : Array Slot), F_X5_move_c79 τ a0 w2 w5 w6 = res → va_P z.1 vwCl (xW z r τ) H → va_D A (xW z r τ) → va_S A s.heap H locs → lv_has ls 8 [(0, .ref (r 8)), (2, .int (zB w2)), (5, .int w5), (6, .long w6)] → W p l e { frames := 2, cells := 0, slots := 0, locals := 46 } s m ([.ref (r 8), .int a0] : List Value).toArray below meth c H locs 0 0 Q (F0 m 79 ls []) := by
    intro τ w2 w5 w6 H locs ls hf hP hD hS hl
    unfold F_X5_move_c79 at hf
    refine lv_goto (tgt := 112) hx hb dX5_move_79 (by decide) ?_
    exact J_c112 τ w2 w5 w6 H locs ls hf hP hD hS (lv_sub hl [0, 1, 2, 3] rfl)
  have J_c67 : ∀ (τ : XS) (w2 : Bool) (w3 : Int32) (w4 : Int32) (w5 : Int32) (w6 : Int64) (H : Heap) (locs : List Loc) (ls : Array Slot), F_X5_move_c67 τ a0 w2 w3 w4 w5 w6 = res → va_P z.1 vwCl (xW z r τ) H → va_D A (xW z r τ) → va_S A s.heap H locs → lv_has ls 8 [(0, .ref (r 8)), (2, .int (zB w2)), (3, .int w3), (4, .int w4), (5, .int w5), (6, .long w6)] → W p l e { frames := 2, cells := 0, slots := 0, locals := 46 } s m ([.ref (r 8), .int a0] : List Value).toArray below meth c H locs 0 0 Q (F0 m 67 ls []) := by
    intro τ w2 w3 w4 w5 w6 H locs ls hf hP hD hS hl
    unfold F_X5_move_c67 at hf
    refine lv_iload_n hx hb dX5_move_67 rfl (lv_at hl 2 rfl) ?_
    refine lv_if_ne (tgt := 82) hx hb dX5_move_68 (by decide) (fun c_68 => ?_) (fun c_68 => ?_)
    · rw [if_neg c_68] at hf
      refine lv_iload_n hx hb dX5_move_82 rfl (lv_at hl 2 rfl) ?_
      refine lv_iconst (v := 3) hx hb dX5_move_83 (by decide) ?_
      refine lv_icmp_ne (tgt := 112) hx hb dX5_move_84 (by decide) (fun c_84 => ?_) (fun c_84 => ?_)
      · rw [if_neg c_84] at hf
        exact J_c112 τ w2 w5 w6 H locs ls hf hP hD hS (lv_sub hl [0, 1, 4, 5] rfl)
      · rw [if_pos c_84] at hf
        refine lv_lload hx hb dX5_move_87 (lv_at hl 5 rfl) ?_
        refine lv_aload_n hx hb dX5_move_89 rfl (lv_at hl 0 rfl) ?_
        refine fg_X5_state S hK hP tf_X5_7 dX5_move_90 ?_
        refine lv_iload hx hb dX5_move_93 (lv_at hl 4 rfl) ?_
        refine k_X8_register (a0 := w5) S hK hP tl_X5_49 ⟨Nat.le_of_ble_eq_true rfl, Nat.le_of_ble_eq_true rfl⟩ hl.1 (Nat.le_of_ble_eq_true rfl) dX5_move_95 ?_
        refine lv_ldc2 (v := 65535) hx hb hown (hts _ tk_X5_71) dX5_move_98 ?_
        refine lv_iload hx hb dX5_move_101 (lv_at hl 3 rfl) ?_
        refine lv_lshl (v := (j_lshl (65535 : Int64) w4)) hx hb dX5_move_103 rfl ?_
        refine lv_ldc2 (v := -1) hx hb hown (hts _ tk_X5_69) dX5_move_104 ?_
        refine lv_lxor hx hb dX5_move_107 ?_
        refine lv_land hx hb dX5_move_108 ?_
        refine lv_lor hx hb dX5_move_109 ?_
        refine lv_lstore (lv' := [(6, .long (w6 ||| ((F_X8_register τ w5) &&& ((j_lshl (65535 : Int64) w4) ^^^ (-1 : Int64))))), (0, .ref (r 8)), (2, .int (zB w2)), (3, .int w3), (4, .int w4), (5, .int w5)]) hx hb dX5_move_110 hl (by decide) rfl (fun ls hl => ?_)
        exact J_c112 τ w2 w5 (w6 ||| ((F_X8_register τ w5) &&& ((j_lshl (65535 : Int64) w4) ^^^ (-1 : Int64)))) H locs ls hf hP hD hS (lv_sub hl [1, 2, 5, 0] rfl)
    · rw [if_pos c_68] at hf
      refine lv_lload hx hb dX5_move_71 (lv_at hl 5 rfl) ?_
      refine lv_ldc2 (v := -1) hx hb hown (hts _ tk_X5_69) dX5_move_73 ?_
      refine lv_lxor hx hb dX5_move_76 ?_
      refine lv_lstore (lv' := [(6, .long (w6 ^^^ (-1 : Int64))), (0, .ref (r 8)), (2, .int (zB w2)), (3, .int w3), (4, .int w4), (5, .int w5)]) hx hb dX5_move_77 hl (by decide) rfl (fun ls hl => ?_)
      exact J_c79 τ w2 w5 (w6 ^^^ (-1 : Int64)) H locs ls hf hP hD hS (lv_sub hl [1, 2, 5, 0] rfl)
  have J_c54 : ∀ (τ : XS) (w2 : Bool) (w3 : Int32) (w4 : Int32) (w5 : Int32) (H : Heap) (locs : List Loc) (ls : Array Slot), F_X5_move_c54 τ a0 w2 w3 w4 w5 = res → va_P z.1 vwCl (xW z r τ) H → va_D A (xW z r τ) → va_S A s.heap H locs → lv_has ls 8 [(0, .ref (r 8)), (1, .int a0), (2, .int (zB w2)), (3, .int w3), (4, .int w4), (5, .int w5)] → W p l e { frames := 2, cells := 0, slots := 0, locals := 46 } s m ([.ref (r 8), .int a0] : List Value).toArray below meth c H locs 0 0 Q (F0 m 54 ls []) := by
    intro τ w2 w3 w4 w5 H locs ls hf hP hD hS hl
    unfold F_X5_move_c54 at hf
    refine lv_iload_n hx hb dX5_move_54 rfl (lv_at hl 1 rfl) ?_
    refine lv_iconst (v := 5) hx hb dX5_move_55 (by decide) ?_
    refine lv_bipush (v := 16) hx hb dX5_move_56 (by decide) ?_
    refine k_X1_field (a0 := a0) (a1 := (5 : Int32)) (a2 := (16 : Int32)) S tl_X5_23 ⟨Nat.le_of_ble_eq_true rfl, Nat.le_of_ble_eq_true rfl⟩ hl.1 (Nat.le_of_ble_eq_true rfl) dX5_move_58 ?_
    refine lv_i2l hx hb dX5_move_61 rfl ?_
    refine lv_iload hx hb dX5_move_62 (lv_at hl 4 rfl) ?_
    refine lv_lshl (v := (j_lshl (F_X1_field a0 (5 : Int32) (16 : Int32)).toInt64 w4)) hx hb dX5_move_64 rfl ?_
    refine lv_lstore (lv' := [(6, .long (j_lshl (F_X1_field a0 (5 : Int32) (16 : Int32)).toInt64 w4)), (0, .ref (r 8)), (1, .int a0), (2, .int (zB w2)), (3, .int w3), (4, .int w4), (5, .int w5)]) hx hb dX5_move_65 hl (by decide) rfl (fun ls hl => ?_)
    exact J_c67 τ w2 w3 w4 w5 (j_lshl (F_X1_field a0 (5 : Int32) (16 : Int32)).toInt64 w4) H locs ls hf hP hD hS (lv_sub hl [1, 3, 4, 5, 6, 0] rfl)
  have J_c30 : ∀ (τ : XS) (w2 : Bool) (w3 : Int32) (w4 : Int32) (H : Heap) (locs : List Loc) (ls : Array Slot), F_X5_move_c30 τ a0 w2 w3 w4 = res → va_P z.1 vwCl (xW z r τ) H → va_D A (xW z r τ) → va_S A s.heap H locs → lv_has ls 8 [(0, .ref (r 8)), (1, .int a0), (2, .int (zB w2)), (3, .int w3), (4, .int w4)] → W p l e { frames := 2, cells := 0, slots := 0, locals := 46 } s m ([.ref (r 8), .int a0] : List Value).toArray below meth c H locs 0 0 Q (F0 m 30 ls []) := by
    intro τ w2 w3 w4 H locs ls hf hP hD hS hl
    unfold F_X5_move_c30 at hf
    refine lv_iload_n hx hb dX5_move_30 rfl (lv_at hl 3 rfl) ?_
    refine lv_iconst (v := 1) hx hb dX5_move_31 (by decide) ?_
    refine lv_icmp_eq (tgt := 44) hx hb dX5_move_32 (by decide) (fun c_32 => ?_) (fun c_32 => ?_)
    · rw [if_pos c_32] at hf
      refine lv_iconst (v := 0) hx hb dX5_move_44 (by decide) ?_
      exact hend false τ H locs 45 ls hf hP hD hS dX5_move_45
    · rw [if_neg c_32] at hf
      refine lv_iload hx hb dX5_move_35 (lv_at hl 4 rfl) ?_
      refine lv_iload_n hx hb dX5_move_37 rfl (lv_at hl 2 rfl) ?_
      refine k_X1_width (a0 := w2) S tl_X5_65 ⟨Nat.le_of_ble_eq_true rfl, Nat.le_of_ble_eq_true rfl⟩ hl.1 (Nat.le_of_ble_eq_true rfl) dX5_move_38 ?_
      refine lv_icmp_lt (tgt := 46) hx hb dX5_move_41 (by decide) (fun c_41 => ?_) (fun c_41 => ?_)
      · rw [if_pos c_41] at hf
        refine lv_iload_n hx hb dX5_move_46 rfl (lv_at hl 1 rfl) ?_
        refine lv_iconst (v := 0) hx hb dX5_move_47 (by decide) ?_
        refine lv_iconst (v := 5) hx hb dX5_move_48 (by decide) ?_
        refine k_X1_field (a0 := a0) (a1 := (0 : Int32)) (a2 := (5 : Int32)) S tl_X5_23 ⟨Nat.le_of_ble_eq_true rfl, Nat.le_of_ble_eq_true rfl⟩ hl.1 (Nat.le_of_ble_eq_true rfl) dX5_move_49 ?_
        refine lv_istore (lv' := [(5, .int (F_X1_field a0 (0 : Int32) (5 : Int32))), (0, .ref (r 8)), (1, .int a0), (2, .int (zB w2)), (3, .int w3), (4, .int w4)]) hx hb dX5_move_52 hl (by decide) rfl (fun ls hl => ?_)
        exact J_c54 τ w2 w3 w4 (F_X1_field a0 (0 : Int32) (5 : Int32)) H locs ls hf hP hD hS (lv_sub hl [1, 2, 3, 4, 5, 0] rfl)
      · rw [if_neg c_41] at hf
        refine lv_iconst (v := 0) hx hb dX5_move_44 (by decide) ?_
        exact hend false τ H locs 45 ls hf hP hD hS dX5_move_45
  have J_c18 : ∀ (τ : XS) (w2 : Bool) (w3 : Int32) (H : Heap) (locs : List Loc) (ls : Array Slot), F_X5_move_c18 τ a0 w2 w3 = res → va_P z.1 vwCl (xW z r τ) H → va_D A (xW z r τ) → va_S A s.heap H locs → lv_has ls 8 [(0, .ref (r 8)), (1, .int a0), (2, .int (zB w2)), (3, .int w3)] → W p l e { frames := 2, cells := 0, slots := 0, locals := 46 } s m ([.ref (r 8), .int a0] : List Value).toArray below meth c H locs 0 0 Q (F0 m 18 ls []) := by
    intro τ w2 w3 H locs ls hf hP hD hS hl
    unfold F_X5_move_c18 at hf
    refine lv_bipush (v := 16) hx hb dX5_move_18 (by decide) ?_
    refine lv_iload_n hx hb dX5_move_20 rfl (lv_at hl 1 rfl) ?_
    refine lv_bipush (v := 21) hx hb dX5_move_21 (by decide) ?_
    refine lv_iconst (v := 2) hx hb dX5_move_23 (by decide) ?_
    refine k_X1_field (a0 := a0) (a1 := (21 : Int32)) (a2 := (2 : Int32)) S tl_X5_23 ⟨Nat.le_of_ble_eq_true rfl, Nat.le_of_ble_eq_true rfl⟩ hl.1 (Nat.le_of_ble_eq_true rfl) dX5_move_24 ?_
    refine lv_imul hx hb dX5_move_27 ?_
    refine lv_istore (lv' := [(4, .int ((16 : Int32) * (F_X1_field a0 (21 : Int32) (2 : Int32)))), (0, .ref (r 8)), (1, .int a0), (2, .int (zB w2)), (3, .int w3)]) hx hb dX5_move_28 hl (by decide) rfl (fun ls hl => ?_)
    exact J_c30 τ w2 w3 ((16 : Int32) * (F_X1_field a0 (21 : Int32) (2 : Int32))) H locs ls hf hP hD hS (lv_sub hl [1, 2, 3, 4, 0] rfl)
  have J_c9 : ∀ (τ : XS) (s0 : Bool) (H : Heap) (locs : List Loc) (ls : Array Slot), F_X5_move_c9 τ a0 s0 = res → va_P z.1 vwCl (xW z r τ) H → va_D A (xW z r τ) → va_S A s.heap H locs → lv_has ls 8 [(0, .ref (r 8)), (1, .int a0)] → W p l e { frames := 2, cells := 0, slots := 0, locals := 46 } s m ([.ref (r 8), .int a0] : List Value).toArray below meth c H locs 0 0 Q (F0 m 9 ls [.int (zB s0)]) := by
    intro τ s0 H locs ls hf hP hD hS hl
    unfold F_X5_move_c9 at hf
    refine lv_istore_n (lv' := [(2, .int (zB s0)), (0, .ref (r 8)), (1, .int a0)]) hx hb dX5_move_9 rfl hl (by decide) rfl (fun ls hl => ?_)
    refine lv_iload_n hx hb dX5_move_10 rfl (lv_at hl 2 rfl) ?_
    refine lv_bipush (v := 29) hx hb dX5_move_11 (by decide) ?_
    refine lv_iconst (v := 2) hx hb dX5_move_13 (by decide) ?_
    refine k_X1_field (a0 := a0) (a1 := (29 : Int32)) (a2 := (2 : Int32)) S tl_X5_23 ⟨Nat.le_of_ble_eq_true rfl, Nat.le_of_ble_eq_true rfl⟩ hl.1 (Nat.le_of_ble_eq_true rfl) dX5_move_14 ?_
    refine lv_istore_n (lv' := [(3, .int (F_X1_field a0 (29 : Int32) (2 : Int32))), (2, .int (zB s0)), (0, .ref (r 8)), (1, .int a0)]) hx hb dX5_move_17 rfl hl (by decide) rfl (fun ls hl => ?_)
    exact J_c18 τ s0 (F_X1_field a0 (29 : Int32) (2 : Int32)) H locs ls hf hP hD hS (lv_sub hl [2, 3, 1, 0] rfl)
  unfold F_X5_move at hf
  refine lv_iload_n hx hb dX5_move_0 rfl (lv_at hl 1 rfl) ?_
  refine lv_if_ge (tgt := 8) hx hb dX5_move_1 (by decide) (fun c_1 => ?_) (fun c_1 => ?_)
  · rw [if_pos c_1] at hf
    refine lv_iconst (v := 0) hx hb dX5_move_8 (by decide) ?_
    exact J_c9 σ false H locs ls hf hP hD hS (lv_sub hl [0, 1] rfl)
  · rw [if_neg c_1] at hf
    refine lv_iconst (v := 1) hx hb dX5_move_4 (by decide) ?_
    refine lv_goto (tgt := 9) hx hb dX5_move_5 (by decide) ?_
    exact J_c9 σ true H locs ls hf hP hD hS (lv_sub hl [0, 1] rfl)
theorem k_X5_move {p : Program} {l : Launch} {e : Env} {R : Room} {s : State} {m : MethodId} {args : Array Value} {below : List Frame} {meth : Method} {c : Code} {H : Heap} {locs : List Loc} {Q : State → Prop} {cc : ByteArray} {pc : Nat} {ls : Array Slot} {rest : List Value} {own : String} {index nL : Nat} {A : Nat → Prop} {z : Cx} {r : Nat → Nat} {σ : XS} {a0 : Int32} (S : CallFix p m c cc nL s args tbG own) (hK : va_K z.1 vwCl (cxT z) s) (hA : ∀ q, s.heap.size ≤ q → A q) (hP : va_P z.1 vwCl (xW z r σ) H) (hD : va_D A (xW z r σ)) (hS : va_S A s.heap H locs) (hl : Cond.methodLink own index yX5_move ∈ tbG) (hR : 2 + 1 ≤ R.frames ∧ 8 + (8 + 11) + 46 ≤ R.locals) (hsz : ls.size = nL) (hcat : (rest.map fun v => v.category).sum ≤ 8) (hdg : decode cc pc = .ok (.invokevirtual index, 3)) (kk : ∀ (H : Heap) (locs : List Loc), va_P z.1 vwCl (xW z r (F_X5_move σ a0).2) H → va_D A (xW z r (F_X5_move σ a0).2) → va_S A s.heap H locs → W p l e R s m args below meth c H locs 0 0 Q (F0 m (pc + 3) ls (.int (zB (F_X5_move σ a0).1) :: rest))) : W p l e R s m args below meth c H locs 0 0 Q (F0 m pc ls (.int a0 :: .ref (r 8) :: rest)) :=
  km (As := [.int a0]) (ov := some (.int (zB (F_X5_move σ a0).1))) (w' := xW z r (F_X5_move σ a0).2) (q0 := 8) (ci := 4) S hK hA hP hD hS (c_X5_move l z r σ a0 H.size _ rfl) ⟨tb_cB 1 S.2.2.2.2 tc_X5_move ti_X5 hl rfl rfl (by decide +kernel) hR, S.2.2.2.2 _ tm_X5_move, S.2.2.2.2 _ te_X5_move⟩ rfl rfl rfl rfl hsz rfl hcat hdg kk

theorem dX5_place_0 : decode cX5_place 0 = .ok (.iload_n 1, 1) := by decide +kernel
theorem dX5_place_1 : decode cX5_place 1 = .ok (.iconst 5, 1) := by decide +kernel
theorem dX5_place_2 : decode cX5_place 2 = .ok (.bipush 19, 2) := by decide +kernel
theorem dX5_place_4 : decode cX5_place 4 = .ok (.invokestatic 77, 3) := by decide +kernel
theorem dX5_place_7 : decode cX5_place 7 = .ok (.iconst 2, 1) := by decide +kernel
theorem dX5_place_8 : decode cX5_place 8 = .ok (.lshl, 1) := by decide +kernel
theorem dX5_place_9 : decode cX5_place 9 = .ok (.iload_n 1, 1) := by decide +kernel
theorem dX5_place_10 : decode cX5_place 10 = .ok (.bipush 29, 2) := by decide +kernel
theorem dX5_place_12 : decode cX5_place 12 = .ok (.iconst 2, 1) := by decide +kernel
theorem dX5_place_13 : decode cX5_place 13 = .ok (.invokestatic 23, 3) := by decide +kernel
theorem dX5_place_16 : decode cX5_place 16 = .ok (.i2l, 1) := by decide +kernel
theorem dX5_place_17 : decode cX5_place 17 = .ok (.lor, 1) := by decide +kernel
theorem dX5_place_18 : decode cX5_place 18 = .ok (.lstore_n 2, 1) := by decide +kernel
theorem dX5_place_19 : decode cX5_place 19 = .ok (.iload_n 1, 1) := by decide +kernel
theorem dX5_place_20 : decode cX5_place 20 = .ok (.ifCond .ge 22, 3) := by decide +kernel
theorem dX5_place_23 : decode cX5_place 23 = .ok (.aload_n 0, 1) := by decide +kernel
theorem dX5_place_24 : decode cX5_place 24 = .ok (.getfield 7, 3) := by decide +kernel
theorem dX5_place_27 : decode cX5_place 27 = .ok (.invokevirtual 81, 3) := by decide +kernel
theorem dX5_place_30 : decode cX5_place 30 = .ok (.ldc2_w 85, 3) := by decide +kernel
theorem dX5_place_33 : decode cX5_place 33 = .ok (.land, 1) := by decide +kernel
theorem dX5_place_34 : decode cX5_place 34 = .ok (.lload_n 2, 1) := by decide +kernel
theorem dX5_place_35 : decode cX5_place 35 = .ok (.bipush 12, 2) := by decide +kernel
theorem dX5_place_37 : decode cX5_place 37 = .ok (.lshl, 1) := by decide +kernel
theorem dX5_place_38 : decode cX5_place 38 = .ok (.ladd, 1) := by decide +kernel
theorem dX5_place_39 : decode cX5_place 39 = .ok (.goto 12, 3) := by decide +kernel
theorem dX5_place_42 : decode cX5_place 42 = .ok (.aload_n 0, 1) := by decide +kernel
theorem dX5_place_43 : decode cX5_place 43 = .ok (.getfield 7, 3) := by decide +kernel
theorem dX5_place_46 : decode cX5_place 46 = .ok (.invokevirtual 81, 3) := by decide +kernel
theorem dX5_place_49 : decode cX5_place 49 = .ok (.lload_n 2, 1) := by decide +kernel
theorem dX5_place_50 : decode cX5_place 50 = .ok (.ladd, 1) := by decide +kernel
theorem dX5_place_51 : decode cX5_place 51 = .ok (.lstore 4, 2) := by decide +kernel
theorem dX5_place_53 : decode cX5_place 53 = .ok (.aload_n 0, 1) := by decide +kernel
theorem dX5_place_54 : decode cX5_place 54 = .ok (.getfield 7, 3) := by decide +kernel
theorem dX5_place_57 : decode cX5_place 57 = .ok (.iload_n 1, 1) := by decide +kernel
theorem dX5_place_58 : decode cX5_place 58 = .ok (.iconst 0, 1) := by decide +kernel
theorem dX5_place_59 : decode cX5_place 59 = .ok (.iconst 5, 1) := by decide +kernel
theorem dX5_place_60 : decode cX5_place 60 = .ok (.invokestatic 23, 3) := by decide +kernel
theorem dX5_place_63 : decode cX5_place 63 = .ok (.lload 4, 2) := by decide +kernel
theorem dX5_place_65 : decode cX5_place 65 = .ok (.invokevirtual 39, 3) := by decide +kernel
theorem dX5_place_68 : decode cX5_place 68 = .ok (.iconst 1, 1) := by decide +kernel
theorem dX5_place_69 : decode cX5_place 69 = .ok (.ireturn, 1) := by decide +kernel
def F_X5_place_c68 (τ : XS) (a0 : Int32) : Bool × XS := (true, τ)
def F_X5_place_c51 (τ : XS) (a0 : Int32) (s0 : Int64) : Bool × XS := (F_X5_place_c68 (F_X8_putRegister τ (F_X1_field a0 (0 : Int32) (5 : Int32)) s0) a0)
def F_X5_place_c19 (τ : XS) (a0 : Int32) (w2 : Int64) : Bool × XS := (if 0 ≤ a0 then (F_X5_place_c51 τ a0 ((F_X8_pc τ) + w2)) else (F_X5_place_c51 τ a0 (((F_X8_pc τ) &&& (-4096 : Int64)) + (j_lshl w2 (12 : Int32)))))
def F_X5_place (σ : XS) (a0 : Int32) : Bool × XS := (F_X5_place_c19 σ a0 ((j_lshl (F_X1_signedField a0 (5 : Int32) (19 : Int32)) (2 : Int32)) ||| (F_X1_field a0 (29 : Int32) (2 : Int32)).toInt64))
set_option maxHeartbeats 4000000 in
set_option maxRecDepth 100000 in
theorem c_X5_place (l : Launch) (z : Cx) (r : Nat → Nat) (σ : XS) (a0 : Int32) (sz : Nat) (res : Bool × XS) (hf : F_X5_place σ a0 = res) : Met l yX5_place (wsC yX5_place cX5_place 6 (some .boolean)) { frames := 2, cells := 0, slots := 0, locals := 46 } (mPc z (xW z r σ) sz [.ref (r 8), .int a0]) (gM z (va_A (xW z r σ) sz) (some (.int (zB res.1))) (xW z r res.2)) 0 0 (va_A (xW z r σ) sz) := by
  refine mk_m_z (own := RX5) (wf := xW z r) (by decide) rfl sz _ (Nat.le_of_ble_eq_true rfl) (fun p e s m below meth c A H locs Q ls S hK hA hP hD hS hl hend => ?_)
  have hx := S.1
  have hb := S.2.1
  have hown := S.2.2.2.1
  have hts := S.2.2.2.2
  have hl : lv_has ls 6 [(0, .ref (r 8)), (1, .int a0)] := hl
  have J_c68 : ∀ (τ : XS) (H : Heap) (locs : List Loc) (ls : Array Slot), F_X5_place_c68 τ a0 = res → va_P z.1 vwCl (xW z r τ) H → va_D A (xW z r τ) → va_S A s.heap H locs → lv_has ls 6 [] → W p l e { frames := 2, cells := 0, slots := 0, locals := 46 } s m ([.ref (r 8), .int a0] : List Value).toArray below meth c H locs 0 0 Q (F0 m 68 ls []) := by
    intro τ H locs ls hf hP hD hS hl
    unfold F_X5_place_c68 at hf
    refine lv_iconst (v := 1) hx hb dX5_place_68 (by decide) ?_
    exact hend true τ H locs 69 ls hf hP hD hS dX5_place_69
  have J_c51 : ∀ (τ : XS) (s0 : Int64) (H : Heap) (locs : List Loc) (ls : Array Slot), F_X5_place_c51 τ a0 s0 = res → va_P z.1 vwCl (xW z r τ) H → va_D A (xW z r τ) → va_S A s.heap H locs → lv_has ls 6 [(0, .ref (r 8)), (1, .int a0)] → W p l e { frames := 2, cells := 0, slots := 0, locals := 46 } s m ([.ref (r 8), .int a0] : List Value).toArray below meth c H locs 0 0 Q (F0 m 51 ls [.long s0]) := by
    intro τ s0 H locs ls hf hP hD hS hl
    unfold F_X5_place_c51 at hf
    refine lv_lstore (lv' := [(4, .long s0), (0, .ref (r 8)), (1, .int a0)]) hx hb dX5_place_51 hl (by decide) rfl (fun ls hl => ?_)
    refine lv_aload_n hx hb dX5_place_53 rfl (lv_at hl 1 rfl) ?_
    refine fg_X5_state S hK hP tf_X5_7 dX5_place_54 ?_
    refine lv_iload_n hx hb dX5_place_57 rfl (lv_at hl 2 rfl) ?_
    refine lv_iconst (v := 0) hx hb dX5_place_58 (by decide) ?_
    refine lv_iconst (v := 5) hx hb dX5_place_59 (by decide) ?_
    refine k_X1_field (a0 := a0) (a1 := (0 : Int32)) (a2 := (5 : Int32)) S tl_X5_23 ⟨Nat.le_of_ble_eq_true rfl, Nat.le_of_ble_eq_true rfl⟩ hl.1 (Nat.le_of_ble_eq_true rfl) dX5_place_60 ?_
    refine lv_lload hx hb dX5_place_63 (lv_at hl 0 rfl) ?_
    refine k_X8_putRegister (a0 := (F_X1_field a0 (0 : Int32) (5 : Int32))) (a1 := s0) S hK hA hP hD hS tl_X5_39 ⟨Nat.le_of_ble_eq_true rfl, Nat.le_of_ble_eq_true rfl⟩ hl.1 (Nat.le_of_ble_eq_true rfl) dX5_place_65 (fun H locs hP hD hS => ?_)
    exact J_c68 (F_X8_putRegister τ (F_X1_field a0 (0 : Int32) (5 : Int32)) s0) H locs ls hf hP hD hS (lv_sub hl [] rfl)
  have J_c19 : ∀ (τ : XS) (w2 : Int64) (H : Heap) (locs : List Loc) (ls : Array Slot), F_X5_place_c19 τ a0 w2 = res → va_P z.1 vwCl (xW z r τ) H → va_D A (xW z r τ) → va_S A s.heap H locs → lv_has ls 6 [(0, .ref (r 8)), (1, .int a0), (2, .long w2)] → W p l e { frames := 2, cells := 0, slots := 0, locals := 46 } s m ([.ref (r 8), .int a0] : List Value).toArray below meth c H locs 0 0 Q (F0 m 19 ls []) := by
    intro τ w2 H locs ls hf hP hD hS hl
    unfold F_X5_place_c19 at hf
    refine lv_iload_n hx hb dX5_place_19 rfl (lv_at hl 1 rfl) ?_
    refine lv_if_ge (tgt := 42) hx hb dX5_place_20 (by decide) (fun c_20 => ?_) (fun c_20 => ?_)
    · rw [if_pos c_20] at hf
      refine lv_aload_n hx hb dX5_place_42 rfl (lv_at hl 0 rfl) ?_
      refine fg_X5_state S hK hP tf_X5_7 dX5_place_43 ?_
      refine k_X8_pc S hK hP tl_X5_81 ⟨Nat.le_of_ble_eq_true rfl, Nat.le_of_ble_eq_true rfl⟩ hl.1 (Nat.le_of_ble_eq_true rfl) dX5_place_46 ?_
      refine lv_lload_n hx hb dX5_place_49 rfl (lv_at hl 2 rfl) ?_
      refine lv_ladd hx hb dX5_place_50 ?_
      exact J_c51 τ ((F_X8_pc τ) + w2) H locs ls hf hP hD hS (lv_sub hl [0, 1] rfl)
    · rw [if_neg c_20] at hf
      refine lv_aload_n hx hb dX5_place_23 rfl (lv_at hl 0 rfl) ?_
      refine fg_X5_state S hK hP tf_X5_7 dX5_place_24 ?_
      refine k_X8_pc S hK hP tl_X5_81 ⟨Nat.le_of_ble_eq_true rfl, Nat.le_of_ble_eq_true rfl⟩ hl.1 (Nat.le_of_ble_eq_true rfl) dX5_place_27 ?_
      refine lv_ldc2 (v := -4096) hx hb hown (hts _ tk_X5_85) dX5_place_30 ?_
      refine lv_land hx hb dX5_place_33 ?_
      refine lv_lload_n hx hb dX5_place_34 rfl (lv_at hl 2 rfl) ?_
      refine lv_bipush (v := 12) hx hb dX5_place_35 (by decide) ?_
      refine lv_lshl (v := (j_lshl w2 (12 : Int32))) hx hb dX5_place_37 rfl ?_
      refine lv_ladd hx hb dX5_place_38 ?_
      refine lv_goto (tgt := 51) hx hb dX5_place_39 (by decide) ?_
      exact J_c51 τ (((F_X8_pc τ) &&& (-4096 : Int64)) + (j_lshl w2 (12 : Int32))) H locs ls hf hP hD hS (lv_sub hl [0, 1] rfl)
  unfold F_X5_place at hf
  refine lv_iload_n hx hb dX5_place_0 rfl (lv_at hl 1 rfl) ?_
  refine lv_iconst (v := 5) hx hb dX5_place_1 (by decide) ?_
  refine lv_bipush (v := 19) hx hb dX5_place_2 (by decide) ?_
  refine k_X1_signedField (a0 := a0) (a1 := (5 : Int32)) (a2 := (19 : Int32)) S tl_X5_77 ⟨Nat.le_of_ble_eq_true rfl, Nat.le_of_ble_eq_true rfl⟩ hl.1 (Nat.le_of_ble_eq_true rfl) dX5_place_4 ?_
  refine lv_iconst (v := 2) hx hb dX5_place_7 (by decide) ?_
  refine lv_lshl (v := (j_lshl (F_X1_signedField a0 (5 : Int32) (19 : Int32)) (2 : Int32))) hx hb dX5_place_8 rfl ?_
  refine lv_iload_n hx hb dX5_place_9 rfl (lv_at hl 1 rfl) ?_
  refine lv_bipush (v := 29) hx hb dX5_place_10 (by decide) ?_
  refine lv_iconst (v := 2) hx hb dX5_place_12 (by decide) ?_
  refine k_X1_field (a0 := a0) (a1 := (29 : Int32)) (a2 := (2 : Int32)) S tl_X5_23 ⟨Nat.le_of_ble_eq_true rfl, Nat.le_of_ble_eq_true rfl⟩ hl.1 (Nat.le_of_ble_eq_true rfl) dX5_place_13 ?_
  refine lv_i2l hx hb dX5_place_16 rfl ?_
  refine lv_lor hx hb dX5_place_17 ?_
  refine lv_lstore_n (lv' := [(2, .long ((j_lshl (F_X1_signedField a0 (5 : Int32) (19 : Int32)) (2 : Int32)) ||| (F_X1_field a0 (29 : Int32) (2 : Int32)).toInt64)), (0, .ref (r 8)), (1, .int a0)]) hx hb dX5_place_18 rfl hl (by decide) rfl (fun ls hl => ?_)
  exact J_c19 σ ((j_lshl (F_X1_signedField a0 (5 : Int32) (19 : Int32)) (2 : Int32)) ||| (F_X1_field a0 (29 : Int32) (2 : Int32)).toInt64) H locs ls hf hP hD hS (lv_sub hl [1, 2, 0] rfl)
theorem k_X5_place {p : Program} {l : Launch} {e : Env} {R : Room} {s : State} {m : MethodId} {args : Array Value} {below : List Frame} {meth : Method} {c : Code} {H : Heap} {locs : List Loc} {Q : State → Prop} {cc : ByteArray} {pc : Nat} {ls : Array Slot} {rest : List Value} {own : String} {index nL : Nat} {A : Nat → Prop} {z : Cx} {r : Nat → Nat} {σ : XS} {a0 : Int32} (S : CallFix p m c cc nL s args tbG own) (hK : va_K z.1 vwCl (cxT z) s) (hA : ∀ q, s.heap.size ≤ q → A q) (hP : va_P z.1 vwCl (xW z r σ) H) (hD : va_D A (xW z r σ)) (hS : va_S A s.heap H locs) (hl : Cond.methodLink own index yX5_place ∈ tbG) (hR : 2 + 1 ≤ R.frames ∧ 8 + (6 + 11) + 46 ≤ R.locals) (hsz : ls.size = nL) (hcat : (rest.map fun v => v.category).sum ≤ 8) (hdg : decode cc pc = .ok (.invokevirtual index, 3)) (kk : ∀ (H : Heap) (locs : List Loc), va_P z.1 vwCl (xW z r (F_X5_place σ a0).2) H → va_D A (xW z r (F_X5_place σ a0).2) → va_S A s.heap H locs → W p l e R s m args below meth c H locs 0 0 Q (F0 m (pc + 3) ls (.int (zB (F_X5_place σ a0).1) :: rest))) : W p l e R s m args below meth c H locs 0 0 Q (F0 m pc ls (.int a0 :: .ref (r 8) :: rest)) :=
  km (As := [.int a0]) (ov := some (.int (zB (F_X5_place σ a0).1))) (w' := xW z r (F_X5_place σ a0).2) (q0 := 8) (ci := 4) S hK hA hP hD hS (c_X5_place l z r σ a0 H.size _ rfl) ⟨tb_cB 1 S.2.2.2.2 tc_X5_place ti_X5 hl rfl rfl (by decide +kernel) hR, S.2.2.2.2 _ tm_X5_place, S.2.2.2.2 _ te_X5_place⟩ rfl rfl rfl rfl hsz rfl hcat hdg kk

theorem dX5_bits_0 : decode cX5_bits 0 = .ok (.iload_n 1, 1) := by decide +kernel
theorem dX5_bits_1 : decode cX5_bits 1 = .ok (.ifCond .ge 7, 3) := by decide +kernel
theorem dX5_bits_4 : decode cX5_bits 4 = .ok (.iconst 1, 1) := by decide +kernel
theorem dX5_bits_5 : decode cX5_bits 5 = .ok (.goto 4, 3) := by decide +kernel
theorem dX5_bits_8 : decode cX5_bits 8 = .ok (.iconst 0, 1) := by decide +kernel
theorem dX5_bits_9 : decode cX5_bits 9 = .ok (.istore_n 2, 1) := by decide +kernel
theorem dX5_bits_10 : decode cX5_bits 10 = .ok (.iload_n 2, 1) := by decide +kernel
theorem dX5_bits_11 : decode cX5_bits 11 = .ok (.invokestatic 65, 3) := by decide +kernel
theorem dX5_bits_14 : decode cX5_bits 14 = .ok (.istore_n 3, 1) := by decide +kernel
theorem dX5_bits_15 : decode cX5_bits 15 = .ok (.iload_n 1, 1) := by decide +kernel
theorem dX5_bits_16 : decode cX5_bits 16 = .ok (.bipush 29, 2) := by decide +kernel
theorem dX5_bits_18 : decode cX5_bits 18 = .ok (.iconst 2, 1) := by decide +kernel
theorem dX5_bits_19 : decode cX5_bits 19 = .ok (.invokestatic 23, 3) := by decide +kernel
theorem dX5_bits_22 : decode cX5_bits 22 = .ok (.istore 4, 2) := by decide +kernel
theorem dX5_bits_24 : decode cX5_bits 24 = .ok (.iload_n 1, 1) := by decide +kernel
theorem dX5_bits_25 : decode cX5_bits 25 = .ok (.bipush 16, 2) := by decide +kernel
theorem dX5_bits_27 : decode cX5_bits 27 = .ok (.bipush 6, 2) := by decide +kernel
theorem dX5_bits_29 : decode cX5_bits 29 = .ok (.invokestatic 23, 3) := by decide +kernel
theorem dX5_bits_32 : decode cX5_bits 32 = .ok (.istore 5, 2) := by decide +kernel
theorem dX5_bits_34 : decode cX5_bits 34 = .ok (.iload_n 1, 1) := by decide +kernel
theorem dX5_bits_35 : decode cX5_bits 35 = .ok (.bipush 10, 2) := by decide +kernel
theorem dX5_bits_37 : decode cX5_bits 37 = .ok (.bipush 6, 2) := by decide +kernel
theorem dX5_bits_39 : decode cX5_bits 39 = .ok (.invokestatic 23, 3) := by decide +kernel
theorem dX5_bits_42 : decode cX5_bits 42 = .ok (.istore 6, 2) := by decide +kernel
theorem dX5_bits_44 : decode cX5_bits 44 = .ok (.iload 4, 2) := by decide +kernel
theorem dX5_bits_46 : decode cX5_bits 46 = .ok (.iconst 3, 1) := by decide +kernel
theorem dX5_bits_47 : decode cX5_bits 47 = .ok (.if_icmp .eq 25, 3) := by decide +kernel
theorem dX5_bits_50 : decode cX5_bits 50 = .ok (.iload_n 1, 1) := by decide +kernel
theorem dX5_bits_51 : decode cX5_bits 51 = .ok (.bipush 22, 2) := by decide +kernel
theorem dX5_bits_53 : decode cX5_bits 53 = .ok (.invokestatic 17, 3) := by decide +kernel
theorem dX5_bits_56 : decode cX5_bits 56 = .ok (.iload_n 2, 1) := by decide +kernel
theorem dX5_bits_57 : decode cX5_bits 57 = .ok (.if_icmp .ne 15, 3) := by decide +kernel
theorem dX5_bits_60 : decode cX5_bits 60 = .ok (.iload 5, 2) := by decide +kernel
theorem dX5_bits_62 : decode cX5_bits 62 = .ok (.iload_n 3, 1) := by decide +kernel
theorem dX5_bits_63 : decode cX5_bits 63 = .ok (.if_icmp .ge 9, 3) := by decide +kernel
theorem dX5_bits_66 : decode cX5_bits 66 = .ok (.iload 6, 2) := by decide +kernel
theorem dX5_bits_68 : decode cX5_bits 68 = .ok (.iload_n 3, 1) := by decide +kernel
theorem dX5_bits_69 : decode cX5_bits 69 = .ok (.if_icmp .lt 5, 3) := by decide +kernel
theorem dX5_bits_72 : decode cX5_bits 72 = .ok (.iconst 0, 1) := by decide +kernel
theorem dX5_bits_73 : decode cX5_bits 73 = .ok (.ireturn, 1) := by decide +kernel
theorem dX5_bits_74 : decode cX5_bits 74 = .ok (.iload_n 1, 1) := by decide +kernel
theorem dX5_bits_75 : decode cX5_bits 75 = .ok (.iconst 0, 1) := by decide +kernel
theorem dX5_bits_76 : decode cX5_bits 76 = .ok (.iconst 5, 1) := by decide +kernel
theorem dX5_bits_77 : decode cX5_bits 77 = .ok (.invokestatic 23, 3) := by decide +kernel
theorem dX5_bits_80 : decode cX5_bits 80 = .ok (.istore 7, 2) := by decide +kernel
theorem dX5_bits_82 : decode cX5_bits 82 = .ok (.aload_n 0, 1) := by decide +kernel
theorem dX5_bits_83 : decode cX5_bits 83 = .ok (.getfield 7, 3) := by decide +kernel
theorem dX5_bits_86 : decode cX5_bits 86 = .ok (.iload_n 1, 1) := by decide +kernel
theorem dX5_bits_87 : decode cX5_bits 87 = .ok (.iconst 5, 1) := by decide +kernel
theorem dX5_bits_88 : decode cX5_bits 88 = .ok (.iconst 5, 1) := by decide +kernel
theorem dX5_bits_89 : decode cX5_bits 89 = .ok (.invokestatic 23, 3) := by decide +kernel
theorem dX5_bits_92 : decode cX5_bits 92 = .ok (.invokevirtual 49, 3) := by decide +kernel
theorem dX5_bits_95 : decode cX5_bits 95 = .ok (.lstore 8, 2) := by decide +kernel
theorem dX5_bits_97 : decode cX5_bits 97 = .ok (.iload 6, 2) := by decide +kernel
theorem dX5_bits_99 : decode cX5_bits 99 = .ok (.iload 5, 2) := by decide +kernel
theorem dX5_bits_101 : decode cX5_bits 101 = .ok (.if_icmp .lt 7, 3) := by decide +kernel
theorem dX5_bits_104 : decode cX5_bits 104 = .ok (.iconst 1, 1) := by decide +kernel
theorem dX5_bits_105 : decode cX5_bits 105 = .ok (.goto 4, 3) := by decide +kernel
theorem dX5_bits_108 : decode cX5_bits 108 = .ok (.iconst 0, 1) := by decide +kernel
theorem dX5_bits_109 : decode cX5_bits 109 = .ok (.istore 10, 2) := by decide +kernel
theorem dX5_bits_111 : decode cX5_bits 111 = .ok (.iload 10, 2) := by decide +kernel
theorem dX5_bits_113 : decode cX5_bits 113 = .ok (.ifCond .eq 13, 3) := by decide +kernel
theorem dX5_bits_116 : decode cX5_bits 116 = .ok (.iload 6, 2) := by decide +kernel
theorem dX5_bits_118 : decode cX5_bits 118 = .ok (.iload 5, 2) := by decide +kernel
theorem dX5_bits_120 : decode cX5_bits 120 = .ok (.isub, 1) := by decide +kernel
theorem dX5_bits_121 : decode cX5_bits 121 = .ok (.iconst 1, 1) := by decide +kernel
theorem dX5_bits_122 : decode cX5_bits 122 = .ok (.iadd, 1) := by decide +kernel
theorem dX5_bits_123 : decode cX5_bits 123 = .ok (.goto 7, 3) := by decide +kernel
theorem dX5_bits_126 : decode cX5_bits 126 = .ok (.iload 6, 2) := by decide +kernel
theorem dX5_bits_128 : decode cX5_bits 128 = .ok (.iconst 1, 1) := by decide +kernel
theorem dX5_bits_129 : decode cX5_bits 129 = .ok (.iadd, 1) := by decide +kernel
theorem dX5_bits_130 : decode cX5_bits 130 = .ok (.istore 11, 2) := by decide +kernel
theorem dX5_bits_132 : decode cX5_bits 132 = .ok (.iload 10, 2) := by decide +kernel
theorem dX5_bits_134 : decode cX5_bits 134 = .ok (.ifCond .eq 7, 3) := by decide +kernel
theorem dX5_bits_137 : decode cX5_bits 137 = .ok (.iconst 0, 1) := by decide +kernel
theorem dX5_bits_138 : decode cX5_bits 138 = .ok (.goto 7, 3) := by decide +kernel
theorem dX5_bits_141 : decode cX5_bits 141 = .ok (.iload_n 3, 1) := by decide +kernel
theorem dX5_bits_142 : decode cX5_bits 142 = .ok (.iload 5, 2) := by decide +kernel
theorem dX5_bits_144 : decode cX5_bits 144 = .ok (.isub, 1) := by decide +kernel
theorem dX5_bits_145 : decode cX5_bits 145 = .ok (.istore 12, 2) := by decide +kernel
theorem dX5_bits_147 : decode cX5_bits 147 = .ok (.lload 8, 2) := by decide +kernel
theorem dX5_bits_149 : decode cX5_bits 149 = .ok (.iload 10, 2) := by decide +kernel
theorem dX5_bits_151 : decode cX5_bits 151 = .ok (.ifCond .eq 8, 3) := by decide +kernel
theorem dX5_bits_154 : decode cX5_bits 154 = .ok (.iload 5, 2) := by decide +kernel
theorem dX5_bits_156 : decode cX5_bits 156 = .ok (.goto 4, 3) := by decide +kernel
theorem dX5_bits_159 : decode cX5_bits 159 = .ok (.iconst 0, 1) := by decide +kernel
theorem dX5_bits_160 : decode cX5_bits 160 = .ok (.lushr, 1) := by decide +kernel
theorem dX5_bits_161 : decode cX5_bits 161 = .ok (.iload 11, 2) := by decide +kernel
theorem dX5_bits_163 : decode cX5_bits 163 = .ok (.invokestatic 62, 3) := by decide +kernel
theorem dX5_bits_166 : decode cX5_bits 166 = .ok (.land, 1) := by decide +kernel
theorem dX5_bits_167 : decode cX5_bits 167 = .ok (.lstore 13, 2) := by decide +kernel
theorem dX5_bits_169 : decode cX5_bits 169 = .ok (.lload 13, 2) := by decide +kernel
theorem dX5_bits_171 : decode cX5_bits 171 = .ok (.iload 12, 2) := by decide +kernel
theorem dX5_bits_173 : decode cX5_bits 173 = .ok (.lshl, 1) := by decide +kernel
theorem dX5_bits_174 : decode cX5_bits 174 = .ok (.lstore 15, 2) := by decide +kernel
theorem dX5_bits_176 : decode cX5_bits 176 = .ok (.iload 4, 2) := by decide +kernel
theorem dX5_bits_178 : decode cX5_bits 178 = .ok (.iconst 1, 1) := by decide +kernel
theorem dX5_bits_179 : decode cX5_bits 179 = .ok (.if_icmp .ne 33, 3) := by decide +kernel
theorem dX5_bits_182 : decode cX5_bits 182 = .ok (.lload 15, 2) := by decide +kernel
theorem dX5_bits_184 : decode cX5_bits 184 = .ok (.aload_n 0, 1) := by decide +kernel
theorem dX5_bits_185 : decode cX5_bits 185 = .ok (.getfield 7, 3) := by decide +kernel
theorem dX5_bits_188 : decode cX5_bits 188 = .ok (.iload 7, 2) := by decide +kernel
theorem dX5_bits_190 : decode cX5_bits 190 = .ok (.invokevirtual 49, 3) := by decide +kernel
theorem dX5_bits_193 : decode cX5_bits 193 = .ok (.iload 11, 2) := by decide +kernel
theorem dX5_bits_195 : decode cX5_bits 195 = .ok (.invokestatic 62, 3) := by decide +kernel
theorem dX5_bits_198 : decode cX5_bits 198 = .ok (.iload 12, 2) := by decide +kernel
theorem dX5_bits_200 : decode cX5_bits 200 = .ok (.lshl, 1) := by decide +kernel
theorem dX5_bits_201 : decode cX5_bits 201 = .ok (.ldc2_w 69, 3) := by decide +kernel
theorem dX5_bits_204 : decode cX5_bits 204 = .ok (.lxor, 1) := by decide +kernel
theorem dX5_bits_205 : decode cX5_bits 205 = .ok (.land, 1) := by decide +kernel
theorem dX5_bits_206 : decode cX5_bits 206 = .ok (.lor, 1) := by decide +kernel
theorem dX5_bits_207 : decode cX5_bits 207 = .ok (.lstore 15, 2) := by decide +kernel
theorem dX5_bits_209 : decode cX5_bits 209 = .ok (.goto 37, 3) := by decide +kernel
theorem dX5_bits_212 : decode cX5_bits 212 = .ok (.iload 4, 2) := by decide +kernel
theorem dX5_bits_214 : decode cX5_bits 214 = .ok (.ifCond .ne 32, 3) := by decide +kernel
theorem dX5_bits_217 : decode cX5_bits 217 = .ok (.lload 8, 2) := by decide +kernel
theorem dX5_bits_219 : decode cX5_bits 219 = .ok (.iload 6, 2) := by decide +kernel
theorem dX5_bits_221 : decode cX5_bits 221 = .ok (.lushr, 1) := by decide +kernel
theorem dX5_bits_222 : decode cX5_bits 222 = .ok (.lconst 1, 1) := by decide +kernel
theorem dX5_bits_223 : decode cX5_bits 223 = .ok (.land, 1) := by decide +kernel
theorem dX5_bits_224 : decode cX5_bits 224 = .ok (.lconst 0, 1) := by decide +kernel
theorem dX5_bits_225 : decode cX5_bits 225 = .ok (.lcmp, 1) := by decide +kernel
theorem dX5_bits_226 : decode cX5_bits 226 = .ok (.ifCond .eq 20, 3) := by decide +kernel
theorem dX5_bits_229 : decode cX5_bits 229 = .ok (.lload 15, 2) := by decide +kernel
theorem dX5_bits_231 : decode cX5_bits 231 = .ok (.iload 12, 2) := by decide +kernel
theorem dX5_bits_233 : decode cX5_bits 233 = .ok (.iload 11, 2) := by decide +kernel
theorem dX5_bits_235 : decode cX5_bits 235 = .ok (.iadd, 1) := by decide +kernel
theorem dX5_bits_236 : decode cX5_bits 236 = .ok (.invokestatic 62, 3) := by decide +kernel
theorem dX5_bits_239 : decode cX5_bits 239 = .ok (.ldc2_w 69, 3) := by decide +kernel
theorem dX5_bits_242 : decode cX5_bits 242 = .ok (.lxor, 1) := by decide +kernel
theorem dX5_bits_243 : decode cX5_bits 243 = .ok (.lor, 1) := by decide +kernel
theorem dX5_bits_244 : decode cX5_bits 244 = .ok (.lstore 15, 2) := by decide +kernel
theorem dX5_bits_246 : decode cX5_bits 246 = .ok (.aload_n 0, 1) := by decide +kernel
theorem dX5_bits_247 : decode cX5_bits 247 = .ok (.getfield 7, 3) := by decide +kernel
theorem dX5_bits_250 : decode cX5_bits 250 = .ok (.iload 7, 2) := by decide +kernel
theorem dX5_bits_252 : decode cX5_bits 252 = .ok (.lload 15, 2) := by decide +kernel
theorem dX5_bits_254 : decode cX5_bits 254 = .ok (.iload_n 2, 1) := by decide +kernel
theorem dX5_bits_255 : decode cX5_bits 255 = .ok (.invokestatic 73, 3) := by decide +kernel
theorem dX5_bits_258 : decode cX5_bits 258 = .ok (.invokevirtual 39, 3) := by decide +kernel
theorem dX5_bits_261 : decode cX5_bits 261 = .ok (.iconst 1, 1) := by decide +kernel
theorem dX5_bits_262 : decode cX5_bits 262 = .ok (.ireturn, 1) := by decide +kernel
def F_X5_bits_c261 (τ : XS) (a0 : Int32) : Bool × XS := (true, τ)
def F_X5_bits_c246 (τ : XS) (a0 : Int32) (w2 : Bool) (w7 : Int32) (w15 : Int64) : Bool × XS := (F_X5_bits_c261 (F_X8_putRegister τ w7 (F_X1_narrow w15 w2)) a0)
def F_X5_bits_c209 (τ : XS) (a0 : Int32) (w2 : Bool) (w7 : Int32) (w15 : Int64) : Bool × XS := (F_X5_bits_c246 τ a0 w2 w7 w15)
def F_X5_bits_c176 (τ : XS) (a0 : Int32) (w2 : Bool) (w4 : Int32) (w6 : Int32) (w7 : Int32) (w8 : Int64) (w11 : Int32) (w12 : Int32) (w15 : Int64) : Bool × XS := (if w4 = (1 : Int32) then (F_X5_bits_c209 τ a0 w2 w7 (w15 ||| ((F_X8_register τ w7) &&& ((j_lshl (F_X1_ones w11) w12) ^^^ (-1 : Int64))))) else (if w4 = 0 then (if ((j_lushr w8 w6) &&& (1 : Int64)) = (0 : Int64) then (F_X5_bits_c246 τ a0 w2 w7 w15) else (F_X5_bits_c246 τ a0 w2 w7 (w15 ||| ((F_X1_ones (w12 + w11)) ^^^ (-1 : Int64))))) else (F_X5_bits_c246 τ a0 w2 w7 w15)))
def F_X5_bits_c160 (τ : XS) (a0 : Int32) (w2 : Bool) (w4 : Int32) (w6 : Int32) (w7 : Int32) (w8 : Int64) (w11 : Int32) (w12 : Int32) (s0 : Int64) (s1 : Int32) : Bool × XS := (F_X5_bits_c176 τ a0 w2 w4 w6 w7 w8 w11 w12 (j_lshl ((j_lushr s0 s1) &&& (F_X1_ones w11)) w12))
def F_X5_bits_c145 (τ : XS) (a0 : Int32) (w2 : Bool) (w4 : Int32) (w5 : Int32) (w6 : Int32) (w7 : Int32) (w8 : Int64) (w10 : Bool) (w11 : Int32) (s0 : Int32) : Bool × XS := (if w10 = true then (F_X5_bits_c160 τ a0 w2 w4 w6 w7 w8 w11 s0 w8 w5) else (F_X5_bits_c160 τ a0 w2 w4 w6 w7 w8 w11 s0 w8 (0 : Int32)))
def F_X5_bits_c130 (τ : XS) (a0 : Int32) (w2 : Bool) (w3 : Int32) (w4 : Int32) (w5 : Int32) (w6 : Int32) (w7 : Int32) (w8 : Int64) (w10 : Bool) (s0 : Int32) : Bool × XS := (if w10 = true then (F_X5_bits_c145 τ a0 w2 w4 w5 w6 w7 w8 w10 s0 (0 : Int32)) else (F_X5_bits_c145 τ a0 w2 w4 w5 w6 w7 w8 w10 s0 (w3 - w5)))
def F_X5_bits_c109 (τ : XS) (a0 : Int32) (w2 : Bool) (w3 : Int32) (w4 : Int32) (w5 : Int32) (w6 : Int32) (w7 : Int32) (w8 : Int64) (s0 : Bool) : Bool × XS := (if s0 = true then (F_X5_bits_c130 τ a0 w2 w3 w4 w5 w6 w7 w8 s0 ((w6 - w5) + (1 : Int32))) else (F_X5_bits_c130 τ a0 w2 w3 w4 w5 w6 w7 w8 s0 (w6 + (1 : Int32))))
def F_X5_bits_c97 (τ : XS) (a0 : Int32) (w2 : Bool) (w3 : Int32) (w4 : Int32) (w5 : Int32) (w6 : Int32) (w7 : Int32) (w8 : Int64) : Bool × XS := (if w6 < w5 then (F_X5_bits_c109 τ a0 w2 w3 w4 w5 w6 w7 w8 false) else (F_X5_bits_c109 τ a0 w2 w3 w4 w5 w6 w7 w8 true))
def F_X5_bits_c82 (τ : XS) (a0 : Int32) (w2 : Bool) (w3 : Int32) (w4 : Int32) (w5 : Int32) (w6 : Int32) (w7 : Int32) : Bool × XS := (F_X5_bits_c97 τ a0 w2 w3 w4 w5 w6 w7 (F_X8_register τ (F_X1_field a0 (5 : Int32) (5 : Int32))))
def F_X5_bits_c44 (τ : XS) (a0 : Int32) (w2 : Bool) (w3 : Int32) (w4 : Int32) (w5 : Int32) (w6 : Int32) : Bool × XS := (if w4 = (3 : Int32) then (false, τ) else (if (F_X1_isOne a0 (22 : Int32)) = w2 then (if w3 ≤ w5 then (false, τ) else (if w6 < w3 then (F_X5_bits_c82 τ a0 w2 w3 w4 w5 w6 (F_X1_field a0 (0 : Int32) (5 : Int32))) else (false, τ))) else (false, τ)))
def F_X5_bits_c34 (τ : XS) (a0 : Int32) (w2 : Bool) (w3 : Int32) (w4 : Int32) (w5 : Int32) : Bool × XS := (F_X5_bits_c44 τ a0 w2 w3 w4 w5 (F_X1_field a0 (10 : Int32) (6 : Int32)))
def F_X5_bits_c24 (τ : XS) (a0 : Int32) (w2 : Bool) (w3 : Int32) (w4 : Int32) : Bool × XS := (F_X5_bits_c34 τ a0 w2 w3 w4 (F_X1_field a0 (16 : Int32) (6 : Int32)))
def F_X5_bits_c15 (τ : XS) (a0 : Int32) (w2 : Bool) (w3 : Int32) : Bool × XS := (F_X5_bits_c24 τ a0 w2 w3 (F_X1_field a0 (29 : Int32) (2 : Int32)))
def F_X5_bits_c9 (τ : XS) (a0 : Int32) (s0 : Bool) : Bool × XS := (F_X5_bits_c15 τ a0 s0 (F_X1_width s0))
def F_X5_bits (σ : XS) (a0 : Int32) : Bool × XS := (if 0 ≤ a0 then (F_X5_bits_c9 σ a0 false) else (F_X5_bits_c9 σ a0 true))
set_option maxHeartbeats 4000000 in
set_option maxRecDepth 100000 in
theorem c_X5_bits (l : Launch) (z : Cx) (r : Nat → Nat) (σ : XS) (a0 : Int32) (sz : Nat) (res : Bool × XS) (hf : F_X5_bits σ a0 = res) : Met l yX5_bits (wsC yX5_bits cX5_bits 17 (some .boolean)) { frames := 2, cells := 0, slots := 0, locals := 46 } (mPc z (xW z r σ) sz [.ref (r 8), .int a0]) (gM z (va_A (xW z r σ) sz) (some (.int (zB res.1))) (xW z r res.2)) 0 0 (va_A (xW z r σ) sz) := by
  refine mk_m_z (own := RX5) (wf := xW z r) (by decide) rfl sz _ (Nat.le_of_ble_eq_true rfl) (fun p e s m below meth c A H locs Q ls S hK hA hP hD hS hl hend => ?_)
  have hx := S.1
  have hb := S.2.1
  have hown := S.2.2.2.1
  have hts := S.2.2.2.2
  have hl : lv_has ls 17 [(0, .ref (r 8)), (1, .int a0)] := hl
  have J_c261 : ∀ (τ : XS) (H : Heap) (locs : List Loc) (ls : Array Slot), F_X5_bits_c261 τ a0 = res → va_P z.1 vwCl (xW z r τ) H → va_D A (xW z r τ) → va_S A s.heap H locs → lv_has ls 17 [] → W p l e { frames := 2, cells := 0, slots := 0, locals := 46 } s m ([.ref (r 8), .int a0] : List Value).toArray below meth c H locs 0 0 Q (F0 m 261 ls []) := by
    intro τ H locs ls hf hP hD hS hl
    unfold F_X5_bits_c261 at hf
    refine lv_iconst (v := 1) hx hb dX5_bits_261 (by decide) ?_
    exact hend true τ H locs 262 ls hf hP hD hS dX5_bits_262
  have J_c246 : ∀ (τ : XS) (w2 : Bool) (w7 : Int32) (w15 : Int64) (H : Heap) (locs : List Loc) (ls : Array Slot), F_X5_bits_c246 τ a0 w2 w7 w15 = res → va_P z.1 vwCl (xW z r τ) H → va_D A (xW z r τ) → va_S A s.heap H locs → lv_has ls 17 [(0, .ref (r 8)), (2, .int (zB w2)), (7, .int w7), (15, .long w15)] → W p l e { frames := 2, cells := 0, slots := 0, locals := 46 } s m ([.ref (r 8), .int a0] : List Value).toArray below meth c H locs 0 0 Q (F0 m 246 ls []) := by
    intro τ w2 w7 w15 H locs ls hf hP hD hS hl
    unfold F_X5_bits_c246 at hf
    refine lv_aload_n hx hb dX5_bits_246 rfl (lv_at hl 0 rfl) ?_
    refine fg_X5_state S hK hP tf_X5_7 dX5_bits_247 ?_
    refine lv_iload hx hb dX5_bits_250 (lv_at hl 2 rfl) ?_
    refine lv_lload hx hb dX5_bits_252 (lv_at hl 3 rfl) ?_
    refine lv_iload_n hx hb dX5_bits_254 rfl (lv_at hl 1 rfl) ?_
    refine k_X1_narrow (a0 := w15) (a1 := w2) S tl_X5_73 ⟨Nat.le_of_ble_eq_true rfl, Nat.le_of_ble_eq_true rfl⟩ hl.1 (Nat.le_of_ble_eq_true rfl) dX5_bits_255 ?_
    refine k_X8_putRegister (a0 := w7) (a1 := (F_X1_narrow w15 w2)) S hK hA hP hD hS tl_X5_39 ⟨Nat.le_of_ble_eq_true rfl, Nat.le_of_ble_eq_true rfl⟩ hl.1 (Nat.le_of_ble_eq_true rfl) dX5_bits_258 (fun H locs hP hD hS => ?_)
    exact J_c261 (F_X8_putRegister τ w7 (F_X1_narrow w15 w2)) H locs ls hf hP hD hS (lv_sub hl [] rfl)
  have J_c209 : ∀ (τ : XS) (w2 : Bool) (w7 : Int32) (w15 : Int64) (H : Heap) (locs : List Loc) (ls : Array Slot), F_X5_bits_c209 τ a0 w2 w7 w15 = res → va_P z.1 vwCl (xW z r τ) H → va_D A (xW z r τ) → va_S A s.heap H locs → lv_has ls 17 [(0, .ref (r 8)), (2, .int (zB w2)), (7, .int w7), (15, .long w15)] → W p l e { frames := 2, cells := 0, slots := 0, locals := 46 } s m ([.ref (r 8), .int a0] : List Value).toArray below meth c H locs 0 0 Q (F0 m 209 ls []) := by
    intro τ w2 w7 w15 H locs ls hf hP hD hS hl
    unfold F_X5_bits_c209 at hf
    refine lv_goto (tgt := 246) hx hb dX5_bits_209 (by decide) ?_
    exact J_c246 τ w2 w7 w15 H locs ls hf hP hD hS (lv_sub hl [0, 1, 2, 3] rfl)
  have J_c176 : ∀ (τ : XS) (w2 : Bool) (w4 : Int32) (w6 : Int32) (w7 : Int32) (w8 : Int64) (w11 : Int32) (w12 : Int32) (w15 : Int64) (H : Heap) (locs : List Loc) (ls : Array Slot), F_X5_bits_c176 τ a0 w2 w4 w6 w7 w8 w11 w12 w15 = res → va_P z.1 vwCl (xW z r τ) H → va_D A (xW z r τ) → va_S A s.heap H locs → lv_has ls 17 [(0, .ref (r 8)), (2, .int (zB w2)), (4, .int w4), (6, .int w6), (7, .int w7), (8, .long w8), (11, .int w11), (12, .int w12), (15, .long w15)] → W p l e { frames := 2, cells := 0, slots := 0, locals := 46 } s m ([.ref (r 8), .int a0] : List Value).toArray below meth c H locs 0 0 Q (F0 m 176 ls []) := by
    intro τ w2 w4 w6 w7 w8 w11 w12 w15 H locs ls hf hP hD hS hl
    unfold F_X5_bits_c176 at hf
    refine lv_iload hx hb dX5_bits_176 (lv_at hl 2 rfl) ?_
    refine lv_iconst (v := 1) hx hb dX5_bits_178 (by decide) ?_
    refine lv_icmp_ne (tgt := 212) hx hb dX5_bits_179 (by decide) (fun c_179 => ?_) (fun c_179 => ?_)
    · rw [if_neg c_179] at hf
      refine lv_iload hx hb dX5_bits_212 (lv_at hl 2 rfl) ?_
      refine lv_if_ne (tgt := 246) hx hb dX5_bits_214 (by decide) (fun c_214 => ?_) (fun c_214 => ?_)
      · rw [if_neg c_214] at hf
        exact J_c246 τ w2 w7 w15 H locs ls hf hP hD hS (lv_sub hl [0, 1, 4, 8] rfl)
      · rw [if_pos c_214] at hf
        refine lv_lload hx hb dX5_bits_217 (lv_at hl 5 rfl) ?_
        refine lv_iload hx hb dX5_bits_219 (lv_at hl 3 rfl) ?_
        refine lv_lushr (v := (j_lushr w8 w6)) hx hb dX5_bits_221 rfl ?_
        refine lv_lconst (v := 1) hx hb dX5_bits_222 (by decide) ?_
        refine lv_land hx hb dX5_bits_223 ?_
        refine lv_lconst (v := 0) hx hb dX5_bits_224 (by decide) ?_
        refine gl_eq (tgt := 246) hx hb dX5_bits_225 dX5_bits_226 (by decide) (fun c_225 => ?_) (fun c_225 => ?_)
        · rw [if_pos c_225] at hf
          exact J_c246 τ w2 w7 w15 H locs ls hf hP hD hS (lv_sub hl [0, 1, 4, 8] rfl)
        · rw [if_neg c_225] at hf
          refine lv_lload hx hb dX5_bits_229 (lv_at hl 8 rfl) ?_
          refine lv_iload hx hb dX5_bits_231 (lv_at hl 7 rfl) ?_
          refine lv_iload hx hb dX5_bits_233 (lv_at hl 6 rfl) ?_
          refine lv_iadd hx hb dX5_bits_235 ?_
          refine k_X1_ones (a0 := (w12 + w11)) S tl_X5_62 ⟨Nat.le_of_ble_eq_true rfl, Nat.le_of_ble_eq_true rfl⟩ hl.1 (Nat.le_of_ble_eq_true rfl) dX5_bits_236 ?_
          refine lv_ldc2 (v := -1) hx hb hown (hts _ tk_X5_69) dX5_bits_239 ?_
          refine lv_lxor hx hb dX5_bits_242 ?_
          refine lv_lor hx hb dX5_bits_243 ?_
          refine lv_lstore (lv' := [(15, .long (w15 ||| ((F_X1_ones (w12 + w11)) ^^^ (-1 : Int64)))), (0, .ref (r 8)), (2, .int (zB w2)), (4, .int w4), (6, .int w6), (7, .int w7), (8, .long w8), (11, .int w11), (12, .int w12)]) hx hb dX5_bits_244 hl (by decide) rfl (fun ls hl => ?_)
          exact J_c246 τ w2 w7 (w15 ||| ((F_X1_ones (w12 + w11)) ^^^ (-1 : Int64))) H locs ls hf hP hD hS (lv_sub hl [1, 2, 5, 0] rfl)
    · rw [if_pos c_179] at hf
      refine lv_lload hx hb dX5_bits_182 (lv_at hl 8 rfl) ?_
      refine lv_aload_n hx hb dX5_bits_184 rfl (lv_at hl 0 rfl) ?_
      refine fg_X5_state S hK hP tf_X5_7 dX5_bits_185 ?_
      refine lv_iload hx hb dX5_bits_188 (lv_at hl 4 rfl) ?_
      refine k_X8_register (a0 := w7) S hK hP tl_X5_49 ⟨Nat.le_of_ble_eq_true rfl, Nat.le_of_ble_eq_true rfl⟩ hl.1 (Nat.le_of_ble_eq_true rfl) dX5_bits_190 ?_
      refine lv_iload hx hb dX5_bits_193 (lv_at hl 6 rfl) ?_
      refine k_X1_ones (a0 := w11) S tl_X5_62 ⟨Nat.le_of_ble_eq_true rfl, Nat.le_of_ble_eq_true rfl⟩ hl.1 (Nat.le_of_ble_eq_true rfl) dX5_bits_195 ?_
      refine lv_iload hx hb dX5_bits_198 (lv_at hl 7 rfl) ?_
      refine lv_lshl (v := (j_lshl (F_X1_ones w11) w12)) hx hb dX5_bits_200 rfl ?_
      refine lv_ldc2 (v := -1) hx hb hown (hts _ tk_X5_69) dX5_bits_201 ?_
      refine lv_lxor hx hb dX5_bits_204 ?_
      refine lv_land hx hb dX5_bits_205 ?_
      refine lv_lor hx hb dX5_bits_206 ?_
      refine lv_lstore (lv' := [(15, .long (w15 ||| ((F_X8_register τ w7) &&& ((j_lshl (F_X1_ones w11) w12) ^^^ (-1 : Int64))))), (0, .ref (r 8)), (2, .int (zB w2)), (4, .int w4), (6, .int w6), (7, .int w7), (8, .long w8), (11, .int w11), (12, .int w12)]) hx hb dX5_bits_207 hl (by decide) rfl (fun ls hl => ?_)
      exact J_c209 τ w2 w7 (w15 ||| ((F_X8_register τ w7) &&& ((j_lshl (F_X1_ones w11) w12) ^^^ (-1 : Int64)))) H locs ls hf hP hD hS (lv_sub hl [1, 2, 5, 0] rfl)
  have J_c160 : ∀ (τ : XS) (w2 : Bool) (w4 : Int32) (w6 : Int32) (w7 : Int32) (w8 : Int64) (w11 : Int32) (w12 : Int32) (s0 : Int64) (s1 : Int32) (H : Heap) (locs : List Loc) (ls : Array Slot), F_X5_bits_c160 τ a0 w2 w4 w6 w7 w8 w11 w12 s0 s1 = res → va_P z.1 vwCl (xW z r τ) H → va_D A (xW z r τ) → va_S A s.heap H locs → lv_has ls 17 [(0, .ref (r 8)), (2, .int (zB w2)), (4, .int w4), (6, .int w6), (7, .int w7), (8, .long w8), (11, .int w11), (12, .int w12)] → W p l e { frames := 2, cells := 0, slots := 0, locals := 46 } s m ([.ref (r 8), .int a0] : List Value).toArray below meth c H locs 0 0 Q (F0 m 160 ls [.int s1, .long s0]) := by
    intro τ w2 w4 w6 w7 w8 w11 w12 s0 s1 H locs ls hf hP hD hS hl
    unfold F_X5_bits_c160 at hf
    refine lv_lushr (v := (j_lushr s0 s1)) hx hb dX5_bits_160 rfl ?_
    refine lv_iload hx hb dX5_bits_161 (lv_at hl 6 rfl) ?_
    refine k_X1_ones (a0 := w11) S tl_X5_62 ⟨Nat.le_of_ble_eq_true rfl, Nat.le_of_ble_eq_true rfl⟩ hl.1 (Nat.le_of_ble_eq_true rfl) dX5_bits_163 ?_
    refine lv_land hx hb dX5_bits_166 ?_
    refine lv_lstore (lv' := [(13, .long ((j_lushr s0 s1) &&& (F_X1_ones w11))), (0, .ref (r 8)), (2, .int (zB w2)), (4, .int w4), (6, .int w6), (7, .int w7), (8, .long w8), (11, .int w11), (12, .int w12)]) hx hb dX5_bits_167 hl (by decide) rfl (fun ls hl => ?_)
    refine lv_lload hx hb dX5_bits_169 (lv_at hl 0 rfl) ?_
    refine lv_iload hx hb dX5_bits_171 (lv_at hl 8 rfl) ?_
    refine lv_lshl (v := (j_lshl ((j_lushr s0 s1) &&& (F_X1_ones w11)) w12)) hx hb dX5_bits_173 rfl ?_
    refine lv_lstore (lv' := [(15, .long (j_lshl ((j_lushr s0 s1) &&& (F_X1_ones w11)) w12)), (13, .long ((j_lushr s0 s1) &&& (F_X1_ones w11))), (0, .ref (r 8)), (2, .int (zB w2)), (4, .int w4), (6, .int w6), (7, .int w7), (8, .long w8), (11, .int w11), (12, .int w12)]) hx hb dX5_bits_174 hl (by decide) rfl (fun ls hl => ?_)
    exact J_c176 τ w2 w4 w6 w7 w8 w11 w12 (j_lshl ((j_lushr s0 s1) &&& (F_X1_ones w11)) w12) H locs ls hf hP hD hS (lv_sub hl [2, 3, 4, 5, 6, 7, 8, 9, 0] rfl)
  have J_c145 : ∀ (τ : XS) (w2 : Bool) (w4 : Int32) (w5 : Int32) (w6 : Int32) (w7 : Int32) (w8 : Int64) (w10 : Bool) (w11 : Int32) (s0 : Int32) (H : Heap) (locs : List Loc) (ls : Array Slot), F_X5_bits_c145 τ a0 w2 w4 w5 w6 w7 w8 w10 w11 s0 = res → va_P z.1 vwCl (xW z r τ) H → va_D A (xW z r τ) → va_S A s.heap H locs → lv_has ls 17 [(0, .ref (r 8)), (2, .int (zB w2)), (4, .int w4), (5, .int w5), (6, .int w6), (7, .int w7), (8, .long w8), (10, .int (zB w10)), (11, .int w11)] → W p l e { frames := 2, cells := 0, slots := 0, locals := 46 } s m ([.ref (r 8), .int a0] : List Value).toArray below meth c H locs 0 0 Q (F0 m 145 ls [.int s0]) := by
    intro τ w2 w4 w5 w6 w7 w8 w10 w11 s0 H locs ls hf hP hD hS hl
    unfold F_X5_bits_c145 at hf
    refine lv_istore (lv' := [(12, .int s0), (0, .ref (r 8)), (2, .int (zB w2)), (4, .int w4), (5, .int w5), (6, .int w6), (7, .int w7), (8, .long w8), (10, .int (zB w10)), (11, .int w11)]) hx hb dX5_bits_145 hl (by decide) rfl (fun ls hl => ?_)
    refine lv_lload hx hb dX5_bits_147 (lv_at hl 7 rfl) ?_
    refine lv_iload hx hb dX5_bits_149 (lv_at hl 8 rfl) ?_
    refine gz_eq (tgt := 159) hx hb dX5_bits_151 (by decide) (fun c_151 => ?_) (fun c_151 => ?_)
    · rw [if_neg c_151] at hf
      refine lv_iconst (v := 0) hx hb dX5_bits_159 (by decide) ?_
      exact J_c160 τ w2 w4 w6 w7 w8 w11 s0 w8 (0 : Int32) H locs ls hf hP hD hS (lv_sub hl [1, 2, 3, 5, 6, 7, 9, 0] rfl)
    · rw [if_pos c_151] at hf
      refine lv_iload hx hb dX5_bits_154 (lv_at hl 4 rfl) ?_
      refine lv_goto (tgt := 160) hx hb dX5_bits_156 (by decide) ?_
      exact J_c160 τ w2 w4 w6 w7 w8 w11 s0 w8 w5 H locs ls hf hP hD hS (lv_sub hl [1, 2, 3, 5, 6, 7, 9, 0] rfl)
  have J_c130 : ∀ (τ : XS) (w2 : Bool) (w3 : Int32) (w4 : Int32) (w5 : Int32) (w6 : Int32) (w7 : Int32) (w8 : Int64) (w10 : Bool) (s0 : Int32) (H : Heap) (locs : List Loc) (ls : Array Slot), F_X5_bits_c130 τ a0 w2 w3 w4 w5 w6 w7 w8 w10 s0 = res → va_P z.1 vwCl (xW z r τ) H → va_D A (xW z r τ) → va_S A s.heap H locs → lv_has ls 17 [(0, .ref (r 8)), (2, .int (zB w2)), (3, .int w3), (4, .int w4), (5, .int w5), (6, .int w6), (7, .int w7), (8, .long w8), (10, .int (zB w10))] → W p l e { frames := 2, cells := 0, slots := 0, locals := 46 } s m ([.ref (r 8), .int a0] : List Value).toArray below meth c H locs 0 0 Q (F0 m 130 ls [.int s0]) := by
    intro τ w2 w3 w4 w5 w6 w7 w8 w10 s0 H locs ls hf hP hD hS hl
    unfold F_X5_bits_c130 at hf
    refine lv_istore (lv' := [(11, .int s0), (0, .ref (r 8)), (2, .int (zB w2)), (3, .int w3), (4, .int w4), (5, .int w5), (6, .int w6), (7, .int w7), (8, .long w8), (10, .int (zB w10))]) hx hb dX5_bits_130 hl (by decide) rfl (fun ls hl => ?_)
    refine lv_iload hx hb dX5_bits_132 (lv_at hl 9 rfl) ?_
    refine gz_eq (tgt := 141) hx hb dX5_bits_134 (by decide) (fun c_134 => ?_) (fun c_134 => ?_)
    · rw [if_neg c_134] at hf
      refine lv_iload_n hx hb dX5_bits_141 rfl (lv_at hl 3 rfl) ?_
      refine lv_iload hx hb dX5_bits_142 (lv_at hl 5 rfl) ?_
      refine lv_isub hx hb dX5_bits_144 ?_
      exact J_c145 τ w2 w4 w5 w6 w7 w8 w10 s0 (w3 - w5) H locs ls hf hP hD hS (lv_sub hl [1, 2, 4, 5, 6, 7, 8, 9, 0] rfl)
    · rw [if_pos c_134] at hf
      refine lv_iconst (v := 0) hx hb dX5_bits_137 (by decide) ?_
      refine lv_goto (tgt := 145) hx hb dX5_bits_138 (by decide) ?_
      exact J_c145 τ w2 w4 w5 w6 w7 w8 w10 s0 (0 : Int32) H locs ls hf hP hD hS (lv_sub hl [1, 2, 4, 5, 6, 7, 8, 9, 0] rfl)
  have J_c109 : ∀ (τ : XS) (w2 : Bool) (w3 : Int32) (w4 : Int32) (w5 : Int32) (w6 : Int32) (w7 : Int32) (w8 : Int64) (s0 : Bool) (H : Heap) (locs : List Loc) (ls : Array Slot), F_X5_bits_c109 τ a0 w2 w3 w4 w5 w6 w7 w8 s0 = res → va_P z.1 vwCl (xW z r τ) H → va_D A (xW z r τ) → va_S A s.heap H locs → lv_has ls 17 [(0, .ref (r 8)), (2, .int (zB w2)), (3, .int w3), (4, .int w4), (5, .int w5), (6, .int w6), (7, .int w7), (8, .long w8)] → W p l e { frames := 2, cells := 0, slots := 0, locals := 46 } s m ([.ref (r 8), .int a0] : List Value).toArray below meth c H locs 0 0 Q (F0 m 109 ls [.int (zB s0)]) := by
    intro τ w2 w3 w4 w5 w6 w7 w8 s0 H locs ls hf hP hD hS hl
    unfold F_X5_bits_c109 at hf
    refine lv_istore (lv' := [(10, .int (zB s0)), (0, .ref (r 8)), (2, .int (zB w2)), (3, .int w3), (4, .int w4), (5, .int w5), (6, .int w6), (7, .int w7), (8, .long w8)]) hx hb dX5_bits_109 hl (by decide) rfl (fun ls hl => ?_)
    refine lv_iload hx hb dX5_bits_111 (lv_at hl 0 rfl) ?_
    refine gz_eq (tgt := 126) hx hb dX5_bits_113 (by decide) (fun c_113 => ?_) (fun c_113 => ?_)
    · rw [if_neg c_113] at hf
      refine lv_iload hx hb dX5_bits_126 (lv_at hl 6 rfl) ?_
      refine lv_iconst (v := 1) hx hb dX5_bits_128 (by decide) ?_
      refine lv_iadd hx hb dX5_bits_129 ?_
      exact J_c130 τ w2 w3 w4 w5 w6 w7 w8 s0 (w6 + (1 : Int32)) H locs ls hf hP hD hS (lv_sub hl [1, 2, 3, 4, 5, 6, 7, 8, 0] rfl)
    · rw [if_pos c_113] at hf
      refine lv_iload hx hb dX5_bits_116 (lv_at hl 6 rfl) ?_
      refine lv_iload hx hb dX5_bits_118 (lv_at hl 5 rfl) ?_
      refine lv_isub hx hb dX5_bits_120 ?_
      refine lv_iconst (v := 1) hx hb dX5_bits_121 (by decide) ?_
      refine lv_iadd hx hb dX5_bits_122 ?_
      refine lv_goto (tgt := 130) hx hb dX5_bits_123 (by decide) ?_
      exact J_c130 τ w2 w3 w4 w5 w6 w7 w8 s0 ((w6 - w5) + (1 : Int32)) H locs ls hf hP hD hS (lv_sub hl [1, 2, 3, 4, 5, 6, 7, 8, 0] rfl)
  have J_c97 : ∀ (τ : XS) (w2 : Bool) (w3 : Int32) (w4 : Int32) (w5 : Int32) (w6 : Int32) (w7 : Int32) (w8 : Int64) (H : Heap) (locs : List Loc) (ls : Array Slot), F_X5_bits_c97 τ a0 w2 w3 w4 w5 w6 w7 w8 = res → va_P z.1 vwCl (xW z r τ) H → va_D A (xW z r τ) → va_S A s.heap H locs → lv_has ls 17 [(0, .ref (r 8)), (2, .int (zB w2)), (3, .int w3), (4, .int w4), (5, .int w5), (6, .int w6), (7, .int w7), (8, .long w8)] → W p l e { frames := 2, cells := 0, slots := 0, locals := 46 } s m ([.ref (r 8), .int a0] : List Value).toArray below meth c H locs 0 0 Q (F0 m 97 ls []) := by
    intro τ w2 w3 w4 w5 w6 w7 w8 H locs ls hf hP hD hS hl
    unfold F_X5_bits_c97 at hf
    refine lv_iload hx hb dX5_bits_97 (lv_at hl 5 rfl) ?_
    refine lv_iload hx hb dX5_bits_99 (lv_at hl 4 rfl) ?_
    refine lv_icmp_lt (tgt := 108) hx hb dX5_bits_101 (by decide) (fun c_101 => ?_) (fun c_101 => ?_)
    · rw [if_pos c_101] at hf
      refine lv_iconst (v := 0) hx hb dX5_bits_108 (by decide) ?_
      exact J_c109 τ w2 w3 w4 w5 w6 w7 w8 false H locs ls hf hP hD hS (lv_sub hl [0, 1, 2, 3, 4, 5, 6, 7] rfl)
    · rw [if_neg c_101] at hf
      refine lv_iconst (v := 1) hx hb dX5_bits_104 (by decide) ?_
      refine lv_goto (tgt := 109) hx hb dX5_bits_105 (by decide) ?_
      exact J_c109 τ w2 w3 w4 w5 w6 w7 w8 true H locs ls hf hP hD hS (lv_sub hl [0, 1, 2, 3, 4, 5, 6, 7] rfl)
  have J_c82 : ∀ (τ : XS) (w2 : Bool) (w3 : Int32) (w4 : Int32) (w5 : Int32) (w6 : Int32) (w7 : Int32) (H : Heap) (locs : List Loc) (ls : Array Slot), F_X5_bits_c82 τ a0 w2 w3 w4 w5 w6 w7 = res → va_P z.1 vwCl (xW z r τ) H → va_D A (xW z r τ) → va_S A s.heap H locs → lv_has ls 17 [(0, .ref (r 8)), (1, .int a0), (2, .int (zB w2)), (3, .int w3), (4, .int w4), (5, .int w5), (6, .int w6), (7, .int w7)] → W p l e { frames := 2, cells := 0, slots := 0, locals := 46 } s m ([.ref (r 8), .int a0] : List Value).toArray below meth c H locs 0 0 Q (F0 m 82 ls []) := by
    intro τ w2 w3 w4 w5 w6 w7 H locs ls hf hP hD hS hl
    unfold F_X5_bits_c82 at hf
    refine lv_aload_n hx hb dX5_bits_82 rfl (lv_at hl 0 rfl) ?_
    refine fg_X5_state S hK hP tf_X5_7 dX5_bits_83 ?_
    refine lv_iload_n hx hb dX5_bits_86 rfl (lv_at hl 1 rfl) ?_
    refine lv_iconst (v := 5) hx hb dX5_bits_87 (by decide) ?_
    refine lv_iconst (v := 5) hx hb dX5_bits_88 (by decide) ?_
    refine k_X1_field (a0 := a0) (a1 := (5 : Int32)) (a2 := (5 : Int32)) S tl_X5_23 ⟨Nat.le_of_ble_eq_true rfl, Nat.le_of_ble_eq_true rfl⟩ hl.1 (Nat.le_of_ble_eq_true rfl) dX5_bits_89 ?_
    refine k_X8_register (a0 := (F_X1_field a0 (5 : Int32) (5 : Int32))) S hK hP tl_X5_49 ⟨Nat.le_of_ble_eq_true rfl, Nat.le_of_ble_eq_true rfl⟩ hl.1 (Nat.le_of_ble_eq_true rfl) dX5_bits_92 ?_
    refine lv_lstore (lv' := [(8, .long (F_X8_register τ (F_X1_field a0 (5 : Int32) (5 : Int32)))), (0, .ref (r 8)), (1, .int a0), (2, .int (zB w2)), (3, .int w3), (4, .int w4), (5, .int w5), (6, .int w6), (7, .int w7)]) hx hb dX5_bits_95 hl (by decide) rfl (fun ls hl => ?_)
    exact J_c97 τ w2 w3 w4 w5 w6 w7 (F_X8_register τ (F_X1_field a0 (5 : Int32) (5 : Int32))) H locs ls hf hP hD hS (lv_sub hl [1, 3, 4, 5, 6, 7, 8, 0] rfl)
  have J_c44 : ∀ (τ : XS) (w2 : Bool) (w3 : Int32) (w4 : Int32) (w5 : Int32) (w6 : Int32) (H : Heap) (locs : List Loc) (ls : Array Slot), F_X5_bits_c44 τ a0 w2 w3 w4 w5 w6 = res → va_P z.1 vwCl (xW z r τ) H → va_D A (xW z r τ) → va_S A s.heap H locs → lv_has ls 17 [(0, .ref (r 8)), (1, .int a0), (2, .int (zB w2)), (3, .int w3), (4, .int w4), (5, .int w5), (6, .int w6)] → W p l e { frames := 2, cells := 0, slots := 0, locals := 46 } s m ([.ref (r 8), .int a0] : List Value).toArray below meth c H locs 0 0 Q (F0 m 44 ls []) := by
    intro τ w2 w3 w4 w5 w6 H locs ls hf hP hD hS hl
    unfold F_X5_bits_c44 at hf
    refine lv_iload hx hb dX5_bits_44 (lv_at hl 4 rfl) ?_
    refine lv_iconst (v := 3) hx hb dX5_bits_46 (by decide) ?_
    refine lv_icmp_eq (tgt := 72) hx hb dX5_bits_47 (by decide) (fun c_47 => ?_) (fun c_47 => ?_)
    · rw [if_pos c_47] at hf
      refine lv_iconst (v := 0) hx hb dX5_bits_72 (by decide) ?_
      exact hend false τ H locs 73 ls hf hP hD hS dX5_bits_73
    · rw [if_neg c_47] at hf
      refine lv_iload_n hx hb dX5_bits_50 rfl (lv_at hl 1 rfl) ?_
      refine lv_bipush (v := 22) hx hb dX5_bits_51 (by decide) ?_
      refine k_X1_isOne (a0 := a0) (a1 := (22 : Int32)) S tl_X5_17 ⟨Nat.le_of_ble_eq_true rfl, Nat.le_of_ble_eq_true rfl⟩ hl.1 (Nat.le_of_ble_eq_true rfl) dX5_bits_53 ?_
      refine lv_iload_n hx hb dX5_bits_56 rfl (lv_at hl 2 rfl) ?_
      refine gz_cne (tgt := 72) hx hb dX5_bits_57 (by decide) (fun c_57 => ?_) (fun c_57 => ?_)
      · rw [if_neg c_57] at hf
        refine lv_iconst (v := 0) hx hb dX5_bits_72 (by decide) ?_
        exact hend false τ H locs 73 ls hf hP hD hS dX5_bits_73
      · rw [if_pos c_57] at hf
        refine lv_iload hx hb dX5_bits_60 (lv_at hl 5 rfl) ?_
        refine lv_iload_n hx hb dX5_bits_62 rfl (lv_at hl 3 rfl) ?_
        refine lv_icmp_ge (tgt := 72) hx hb dX5_bits_63 (by decide) (fun c_63 => ?_) (fun c_63 => ?_)
        · rw [if_pos c_63] at hf
          refine lv_iconst (v := 0) hx hb dX5_bits_72 (by decide) ?_
          exact hend false τ H locs 73 ls hf hP hD hS dX5_bits_73
        · rw [if_neg c_63] at hf
          refine lv_iload hx hb dX5_bits_66 (lv_at hl 6 rfl) ?_
          refine lv_iload_n hx hb dX5_bits_68 rfl (lv_at hl 3 rfl) ?_
          refine lv_icmp_lt (tgt := 74) hx hb dX5_bits_69 (by decide) (fun c_69 => ?_) (fun c_69 => ?_)
          · rw [if_pos c_69] at hf
            refine lv_iload_n hx hb dX5_bits_74 rfl (lv_at hl 1 rfl) ?_
            refine lv_iconst (v := 0) hx hb dX5_bits_75 (by decide) ?_
            refine lv_iconst (v := 5) hx hb dX5_bits_76 (by decide) ?_
            refine k_X1_field (a0 := a0) (a1 := (0 : Int32)) (a2 := (5 : Int32)) S tl_X5_23 ⟨Nat.le_of_ble_eq_true rfl, Nat.le_of_ble_eq_true rfl⟩ hl.1 (Nat.le_of_ble_eq_true rfl) dX5_bits_77 ?_
            refine lv_istore (lv' := [(7, .int (F_X1_field a0 (0 : Int32) (5 : Int32))), (0, .ref (r 8)), (1, .int a0), (2, .int (zB w2)), (3, .int w3), (4, .int w4), (5, .int w5), (6, .int w6)]) hx hb dX5_bits_80 hl (by decide) rfl (fun ls hl => ?_)
            exact J_c82 τ w2 w3 w4 w5 w6 (F_X1_field a0 (0 : Int32) (5 : Int32)) H locs ls hf hP hD hS (lv_sub hl [1, 2, 3, 4, 5, 6, 7, 0] rfl)
          · rw [if_neg c_69] at hf
            refine lv_iconst (v := 0) hx hb dX5_bits_72 (by decide) ?_
            exact hend false τ H locs 73 ls hf hP hD hS dX5_bits_73
  have J_c34 : ∀ (τ : XS) (w2 : Bool) (w3 : Int32) (w4 : Int32) (w5 : Int32) (H : Heap) (locs : List Loc) (ls : Array Slot), F_X5_bits_c34 τ a0 w2 w3 w4 w5 = res → va_P z.1 vwCl (xW z r τ) H → va_D A (xW z r τ) → va_S A s.heap H locs → lv_has ls 17 [(0, .ref (r 8)), (1, .int a0), (2, .int (zB w2)), (3, .int w3), (4, .int w4), (5, .int w5)] → W p l e { frames := 2, cells := 0, slots := 0, locals := 46 } s m ([.ref (r 8), .int a0] : List Value).toArray below meth c H locs 0 0 Q (F0 m 34 ls []) := by
    intro τ w2 w3 w4 w5 H locs ls hf hP hD hS hl
    unfold F_X5_bits_c34 at hf
    refine lv_iload_n hx hb dX5_bits_34 rfl (lv_at hl 1 rfl) ?_
    refine lv_bipush (v := 10) hx hb dX5_bits_35 (by decide) ?_
    refine lv_bipush (v := 6) hx hb dX5_bits_37 (by decide) ?_
    refine k_X1_field (a0 := a0) (a1 := (10 : Int32)) (a2 := (6 : Int32)) S tl_X5_23 ⟨Nat.le_of_ble_eq_true rfl, Nat.le_of_ble_eq_true rfl⟩ hl.1 (Nat.le_of_ble_eq_true rfl) dX5_bits_39 ?_
    refine lv_istore (lv' := [(6, .int (F_X1_field a0 (10 : Int32) (6 : Int32))), (0, .ref (r 8)), (1, .int a0), (2, .int (zB w2)), (3, .int w3), (4, .int w4), (5, .int w5)]) hx hb dX5_bits_42 hl (by decide) rfl (fun ls hl => ?_)
    exact J_c44 τ w2 w3 w4 w5 (F_X1_field a0 (10 : Int32) (6 : Int32)) H locs ls hf hP hD hS (lv_sub hl [1, 2, 3, 4, 5, 6, 0] rfl)
  have J_c24 : ∀ (τ : XS) (w2 : Bool) (w3 : Int32) (w4 : Int32) (H : Heap) (locs : List Loc) (ls : Array Slot), F_X5_bits_c24 τ a0 w2 w3 w4 = res → va_P z.1 vwCl (xW z r τ) H → va_D A (xW z r τ) → va_S A s.heap H locs → lv_has ls 17 [(0, .ref (r 8)), (1, .int a0), (2, .int (zB w2)), (3, .int w3), (4, .int w4)] → W p l e { frames := 2, cells := 0, slots := 0, locals := 46 } s m ([.ref (r 8), .int a0] : List Value).toArray below meth c H locs 0 0 Q (F0 m 24 ls []) := by
    intro τ w2 w3 w4 H locs ls hf hP hD hS hl
    unfold F_X5_bits_c24 at hf
    refine lv_iload_n hx hb dX5_bits_24 rfl (lv_at hl 1 rfl) ?_
    refine lv_bipush (v := 16) hx hb dX5_bits_25 (by decide) ?_
    refine lv_bipush (v := 6) hx hb dX5_bits_27 (by decide) ?_
    refine k_X1_field (a0 := a0) (a1 := (16 : Int32)) (a2 := (6 : Int32)) S tl_X5_23 ⟨Nat.le_of_ble_eq_true rfl, Nat.le_of_ble_eq_true rfl⟩ hl.1 (Nat.le_of_ble_eq_true rfl) dX5_bits_29 ?_
    refine lv_istore (lv' := [(5, .int (F_X1_field a0 (16 : Int32) (6 : Int32))), (0, .ref (r 8)), (1, .int a0), (2, .int (zB w2)), (3, .int w3), (4, .int w4)]) hx hb dX5_bits_32 hl (by decide) rfl (fun ls hl => ?_)
    exact J_c34 τ w2 w3 w4 (F_X1_field a0 (16 : Int32) (6 : Int32)) H locs ls hf hP hD hS (lv_sub hl [1, 2, 3, 4, 5, 0] rfl)
  have J_c15 : ∀ (τ : XS) (w2 : Bool) (w3 : Int32) (H : Heap) (locs : List Loc) (ls : Array Slot), F_X5_bits_c15 τ a0 w2 w3 = res → va_P z.1 vwCl (xW z r τ) H → va_D A (xW z r τ) → va_S A s.heap H locs → lv_has ls 17 [(0, .ref (r 8)), (1, .int a0), (2, .int (zB w2)), (3, .int w3)] → W p l e { frames := 2, cells := 0, slots := 0, locals := 46 } s m ([.ref (r 8), .int a0] : List Value).toArray below meth c H locs 0 0 Q (F0 m 15 ls []) := by
    intro τ w2 w3 H locs ls hf hP hD hS hl
    unfold F_X5_bits_c15 at hf
    refine lv_iload_n hx hb dX5_bits_15 rfl (lv_at hl 1 rfl) ?_
    refine lv_bipush (v := 29) hx hb dX5_bits_16 (by decide) ?_
    refine lv_iconst (v := 2) hx hb dX5_bits_18 (by decide) ?_
    refine k_X1_field (a0 := a0) (a1 := (29 : Int32)) (a2 := (2 : Int32)) S tl_X5_23 ⟨Nat.le_of_ble_eq_true rfl, Nat.le_of_ble_eq_true rfl⟩ hl.1 (Nat.le_of_ble_eq_true rfl) dX5_bits_19 ?_
    refine lv_istore (lv' := [(4, .int (F_X1_field a0 (29 : Int32) (2 : Int32))), (0, .ref (r 8)), (1, .int a0), (2, .int (zB w2)), (3, .int w3)]) hx hb dX5_bits_22 hl (by decide) rfl (fun ls hl => ?_)
    exact J_c24 τ w2 w3 (F_X1_field a0 (29 : Int32) (2 : Int32)) H locs ls hf hP hD hS (lv_sub hl [1, 2, 3, 4, 0] rfl)
  have J_c9 : ∀ (τ : XS) (s0 : Bool) (H : Heap) (locs : List Loc) (ls : Array Slot), F_X5_bits_c9 τ a0 s0 = res → va_P z.1 vwCl (xW z r τ) H → va_D A (xW z r τ) → va_S A s.heap H locs → lv_has ls 17 [(0, .ref (r 8)), (1, .int a0)] → W p l e { frames := 2, cells := 0, slots := 0, locals := 46 } s m ([.ref (r 8), .int a0] : List Value).toArray below meth c H locs 0 0 Q (F0 m 9 ls [.int (zB s0)]) := by
    intro τ s0 H locs ls hf hP hD hS hl
    unfold F_X5_bits_c9 at hf
    refine lv_istore_n (lv' := [(2, .int (zB s0)), (0, .ref (r 8)), (1, .int a0)]) hx hb dX5_bits_9 rfl hl (by decide) rfl (fun ls hl => ?_)
    refine lv_iload_n hx hb dX5_bits_10 rfl (lv_at hl 0 rfl) ?_
    refine k_X1_width (a0 := s0) S tl_X5_65 ⟨Nat.le_of_ble_eq_true rfl, Nat.le_of_ble_eq_true rfl⟩ hl.1 (Nat.le_of_ble_eq_true rfl) dX5_bits_11 ?_
    refine lv_istore_n (lv' := [(3, .int (F_X1_width s0)), (2, .int (zB s0)), (0, .ref (r 8)), (1, .int a0)]) hx hb dX5_bits_14 rfl hl (by decide) rfl (fun ls hl => ?_)
    exact J_c15 τ s0 (F_X1_width s0) H locs ls hf hP hD hS (lv_sub hl [2, 3, 1, 0] rfl)
  unfold F_X5_bits at hf
  refine lv_iload_n hx hb dX5_bits_0 rfl (lv_at hl 1 rfl) ?_
  refine lv_if_ge (tgt := 8) hx hb dX5_bits_1 (by decide) (fun c_1 => ?_) (fun c_1 => ?_)
  · rw [if_pos c_1] at hf
    refine lv_iconst (v := 0) hx hb dX5_bits_8 (by decide) ?_
    exact J_c9 σ false H locs ls hf hP hD hS (lv_sub hl [0, 1] rfl)
  · rw [if_neg c_1] at hf
    refine lv_iconst (v := 1) hx hb dX5_bits_4 (by decide) ?_
    refine lv_goto (tgt := 9) hx hb dX5_bits_5 (by decide) ?_
    exact J_c9 σ true H locs ls hf hP hD hS (lv_sub hl [0, 1] rfl)
theorem k_X5_bits {p : Program} {l : Launch} {e : Env} {R : Room} {s : State} {m : MethodId} {args : Array Value} {below : List Frame} {meth : Method} {c : Code} {H : Heap} {locs : List Loc} {Q : State → Prop} {cc : ByteArray} {pc : Nat} {ls : Array Slot} {rest : List Value} {own : String} {index nL : Nat} {A : Nat → Prop} {z : Cx} {r : Nat → Nat} {σ : XS} {a0 : Int32} (S : CallFix p m c cc nL s args tbG own) (hK : va_K z.1 vwCl (cxT z) s) (hA : ∀ q, s.heap.size ≤ q → A q) (hP : va_P z.1 vwCl (xW z r σ) H) (hD : va_D A (xW z r σ)) (hS : va_S A s.heap H locs) (hl : Cond.methodLink own index yX5_bits ∈ tbG) (hR : 2 + 1 ≤ R.frames ∧ 8 + (17 + 11) + 46 ≤ R.locals) (hsz : ls.size = nL) (hcat : (rest.map fun v => v.category).sum ≤ 8) (hdg : decode cc pc = .ok (.invokevirtual index, 3)) (kk : ∀ (H : Heap) (locs : List Loc), va_P z.1 vwCl (xW z r (F_X5_bits σ a0).2) H → va_D A (xW z r (F_X5_bits σ a0).2) → va_S A s.heap H locs → W p l e R s m args below meth c H locs 0 0 Q (F0 m (pc + 3) ls (.int (zB (F_X5_bits σ a0).1) :: rest))) : W p l e R s m args below meth c H locs 0 0 Q (F0 m pc ls (.int a0 :: .ref (r 8) :: rest)) :=
  km (As := [.int a0]) (ov := some (.int (zB (F_X5_bits σ a0).1))) (w' := xW z r (F_X5_bits σ a0).2) (q0 := 8) (ci := 4) S hK hA hP hD hS (c_X5_bits l z r σ a0 H.size _ rfl) ⟨tb_cB 1 S.2.2.2.2 tc_X5_bits ti_X5 hl rfl rfl (by decide +kernel) hR, S.2.2.2.2 _ tm_X5_bits, S.2.2.2.2 _ te_X5_bits⟩ rfl rfl rfl rfl hsz rfl hcat hdg kk

