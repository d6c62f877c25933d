theorem dX1_field_0 : decode cX1_field 0 = .ok (.iload_n 0, 1) := by decide +kernel
theorem dX1_field_1 : decode cX1_field 1 = .ok (.iload_n 1, 1) := by decide +kernel
theorem dX1_field_2 : decode cX1_field 2 = .ok (.iushr, 1) := by decide +kernel
theorem dX1_field_3 : decode cX1_field 3 = .ok (.iconst 1, 1) := by decide +kernel
theorem dX1_field_4 : decode cX1_field 4 = .ok (.iload_n 2, 1) := by decide +kernel
theorem dX1_field_5 : decode cX1_field 5 = .ok (.ishl, 1) := by decide +kernel
theorem dX1_field_6 : decode cX1_field 6 = .ok (.iconst 1, 1) := by decide +kernel
theorem dX1_field_7 : decode cX1_field 7 = .ok (.isub, 1) := by decide +kernel
theorem dX1_field_8 : decode cX1_field 8 = .ok (.iand, 1) := by decide +kernel
theorem dX1_field_9 : decode cX1_field 9 = .ok (.ireturn, 1) := by decide +kernel
def F_X1_field (a0 : Int32) (a1 : Int32) (a2 : Int32) : Int32 := ((j_iushr a0 a1) &&& (((1 : Int32) <<< (a2 &&& 31)) - (1 : Int32)))
set_option maxHeartbeats 4000000 in
set_option maxRecDepth 100000 in
theorem c_X1_field (l : Launch) (a0 : Int32) (a1 : Int32) (a2 : Int32) (res : Int32) (hf : F_X1_field a0 a1 a2 = res) : Met l yX1_field (wsC yX1_field cX1_field 3 (some .int)) { frames := 0, cells := 0, slots := 0, locals := 0 } (fun v _ => v = ([.int a0, .int a1, .int a2] : List Value).toArray) (gS (some (.int res))) 0 0 (fun _ => False) := by
  refine mk_s_i (own := RX1) (by decide) rfl _ (Nat.le_of_ble_eq_true rfl) (fun p e s m below meth c H locs Q ls S hl hend => ?_)
  have hx := S.1
  have hb := S.2.1
  have hown := S.2.2.2.1
  have hts := S.2.2.2.2
  have hl : lv_has ls 3 [(0, .int a0), (1, .int a1), (2, .int a2)] := hl
  unfold F_X1_field at hf
  refine lv_iload_n hx hb dX1_field_0 rfl (lv_at hl 0 rfl) ?_
  refine lv_iload_n hx hb dX1_field_1 rfl (lv_at hl 1 rfl) ?_
  refine lv_iushr (v := (j_iushr a0 a1)) hx hb dX1_field_2 rfl ?_
  refine lv_iconst (v := 1) hx hb dX1_field_3 (by decide) ?_
  refine lv_iload_n hx hb dX1_field_4 rfl (lv_at hl 2 rfl) ?_
  refine lv_ishl hx hb dX1_field_5 ?_
  refine lv_iconst (v := 1) hx hb dX1_field_6 (by decide) ?_
  refine lv_isub hx hb dX1_field_7 ?_
  refine lv_iand hx hb dX1_field_8 ?_
  exact hend ((j_iushr a0 a1) &&& (((1 : Int32) <<< (a2 &&& 31)) - (1 : Int32))) 9 ls hf dX1_field_9
theorem k_X1_field {p : Program} {l : Launch} {e : Env} {R : Room} {s : State} {m : MethodId} {args : Array Value} {below : List Frame} {meth : Method} {c : Code} {H : Heap} {locs : List Loc} {Q : State → Prop} {cc : ByteArray} {pc : Nat} {ls : Array Slot} {rest : List Value} {own : String} {index nL : Nat} {a0 : Int32} {a1 : Int32} {a2 : Int32} (S : CallFix p m c cc nL s args tbG own) (hl : Cond.methodLink own index yX1_field ∈ tbG) (hR : 0 + 1 ≤ R.frames ∧ 8 + (3 + 11) + 0 ≤ R.locals) (hsz : ls.size = nL) (hcat : (rest.map fun v => v.category).sum ≤ 8) (hdg : decode cc pc = .ok (.invokestatic index, 3)) (kk : W p l e R s m args below meth c H locs 0 0 Q (F0 m (pc + 3) ls (.int (F_X1_field a0 a1 a2) :: rest))) : W p l e R s m args below meth c H locs 0 0 Q (F0 m pc ls (.int a2 :: .int a1 :: .int a0 :: rest)) :=
  ks (As := [.int a0, .int a1, .int a2]) (ov := some (.int (F_X1_field a0 a1 a2))) S (c_X1_field l a0 a1 a2 _ rfl) ⟨tb_cB 3 S.2.2.2.2 tc_X1_field ti_X1 hl rfl rfl (by decide +kernel) hR, S.2.2.2.2 _ ts_X1_field⟩ rfl hsz rfl hcat hdg kk

theorem dX1_isOne_0 : decode cX1_isOne 0 = .ok (.iload_n 0, 1) := by decide +kernel
theorem dX1_isOne_1 : decode cX1_isOne 1 = .ok (.iload_n 1, 1) := by decide +kernel
theorem dX1_isOne_2 : decode cX1_isOne 2 = .ok (.iushr, 1) := by decide +kernel
theorem dX1_isOne_3 : decode cX1_isOne 3 = .ok (.iconst 1, 1) := by decide +kernel
theorem dX1_isOne_4 : decode cX1_isOne 4 = .ok (.iand, 1) := by decide +kernel
theorem dX1_isOne_5 : decode cX1_isOne 5 = .ok (.ifCond .eq 7, 3) := by decide +kernel
theorem dX1_isOne_8 : decode cX1_isOne 8 = .ok (.iconst 1, 1) := by decide +kernel
theorem dX1_isOne_9 : decode cX1_isOne 9 = .ok (.goto 4, 3) := by decide +kernel
theorem dX1_isOne_12 : decode cX1_isOne 12 = .ok (.iconst 0, 1) := by decide +kernel
theorem dX1_isOne_13 : decode cX1_isOne 13 = .ok (.ireturn, 1) := by decide +kernel
def F_X1_isOne (a0 : Int32) (a1 : Int32) : Bool := (if ((j_iushr a0 a1) &&& (1 : Int32)) = 0 then false else true)
set_option maxHeartbeats 4000000 in
set_option maxRecDepth 100000 in
theorem c_X1_isOne (l : Launch) (a0 : Int32) (a1 : Int32) (res : Bool) (hf : F_X1_isOne a0 a1 = res) : Met l yX1_isOne (wsC yX1_isOne cX1_isOne 2 (some .boolean)) { frames := 0, cells := 0, slots := 0, locals := 0 } (fun v _ => v = ([.int a0, .int a1] : List Value).toArray) (gS (some (.int (zB res)))) 0 0 (fun _ => False) := by
  refine mk_s_z (own := RX1) (by decide) rfl _ (Nat.le_of_ble_eq_true rfl) (fun p e s m below meth c H locs Q ls S hl hend => ?_)
  have hx := S.1
  have hb := S.2.1
  have hown := S.2.2.2.1
  have hts := S.2.2.2.2
  have hl : lv_has ls 2 [(0, .int a0), (1, .int a1)] := hl
  unfold F_X1_isOne at hf
  refine lv_iload_n hx hb dX1_isOne_0 rfl (lv_at hl 0 rfl) ?_
  refine lv_iload_n hx hb dX1_isOne_1 rfl (lv_at hl 1 rfl) ?_
  refine lv_iushr (v := (j_iushr a0 a1)) hx hb dX1_isOne_2 rfl ?_
  refine lv_iconst (v := 1) hx hb dX1_isOne_3 (by decide) ?_
  refine lv_iand hx hb dX1_isOne_4 ?_
  refine lv_if_eq (tgt := 12) hx hb dX1_isOne_5 (by decide) (fun c_5 => ?_) (fun c_5 => ?_)
  · rw [if_pos c_5] at hf
    refine lv_iconst (v := 0) hx hb dX1_isOne_12 (by decide) ?_
    exact hend false 13 ls hf dX1_isOne_13
  · rw [if_neg c_5] at hf
    refine lv_iconst (v := 1) hx hb dX1_isOne_8 (by decide) ?_
    refine lv_goto (tgt := 13) hx hb dX1_isOne_9 (by decide) ?_
    exact hend true 13 ls hf dX1_isOne_13
theorem k_X1_isOne {p : Program} {l : Launch} {e : Env} {R : Room} {s : State} {m : MethodId} {args : Array Value} {below : List Frame} {meth : Method} {c : Code} {H : Heap} {locs : List Loc} {Q : State → Prop} {cc : ByteArray} {pc : Nat} {ls : Array Slot} {rest : List Value} {own : String} {index nL : Nat} {a0 : Int32} {a1 : Int32} (S : CallFix p m c cc nL s args tbG own) (hl : Cond.methodLink own index yX1_isOne ∈ tbG) (hR : 0 + 1 ≤ R.frames ∧ 8 + (2 + 11) + 0 ≤ R.locals) (hsz : ls.size = nL) (hcat : (rest.map fun v => v.category).sum ≤ 8) (hdg : decode cc pc = .ok (.invokestatic index, 3)) (kk : W p l e R s m args below meth c H locs 0 0 Q (F0 m (pc + 3) ls (.int (zB (F_X1_isOne a0 a1)) :: rest))) : W p l e R s m args below meth c H locs 0 0 Q (F0 m pc ls (.int a1 :: .int a0 :: rest)) :=
  ks (As := [.int a0, .int a1]) (ov := some (.int (zB (F_X1_isOne a0 a1)))) S (c_X1_isOne l a0 a1 _ rfl) ⟨tb_cB 2 S.2.2.2.2 tc_X1_isOne ti_X1 hl rfl rfl (by decide +kernel) hR, S.2.2.2.2 _ ts_X1_isOne⟩ rfl hsz rfl hcat hdg kk

theorem dX0_isSingle_0 : decode cX0_isSingle 0 = .ok (.iload_n 0, 1) := by decide +kernel
theorem dX0_isSingle_1 : decode cX0_isSingle 1 = .ok (.bipush 24, 2) := by decide +kernel
theorem dX0_isSingle_3 : decode cX0_isSingle 3 = .ok (.invokestatic 79, 3) := by decide +kernel
theorem dX0_isSingle_6 : decode cX0_isSingle 6 = .ok (.ifCond .eq 5, 3) := by decide +kernel
theorem dX0_isSingle_9 : decode cX0_isSingle 9 = .ok (.iconst 1, 1) := by decide +kernel
theorem dX0_isSingle_10 : decode cX0_isSingle 10 = .ok (.ireturn, 1) := by decide +kernel
theorem dX0_isSingle_11 : decode cX0_isSingle 11 = .ok (.iload_n 0, 1) := by decide +kernel
theorem dX0_isSingle_12 : decode cX0_isSingle 12 = .ok (.bipush 10, 2) := by decide +kernel
theorem dX0_isSingle_14 : decode cX0_isSingle 14 = .ok (.iconst 2, 1) := by decide +kernel
theorem dX0_isSingle_15 : decode cX0_isSingle 15 = .ok (.invokestatic 21, 3) := by decide +kernel
theorem dX0_isSingle_18 : decode cX0_isSingle 18 = .ok (.istore_n 1, 1) := by decide +kernel
theorem dX0_isSingle_19 : decode cX0_isSingle 19 = .ok (.iload_n 0, 1) := by decide +kernel
theorem dX0_isSingle_20 : decode cX0_isSingle 20 = .ok (.bipush 21, 2) := by decide +kernel
theorem dX0_isSingle_22 : decode cX0_isSingle 22 = .ok (.invokestatic 79, 3) := by decide +kernel
theorem dX0_isSingle_25 : decode cX0_isSingle 25 = .ok (.ifCond .eq 25, 3) := by decide +kernel
theorem dX0_isSingle_28 : decode cX0_isSingle 28 = .ok (.iload_n 1, 1) := by decide +kernel
theorem dX0_isSingle_29 : decode cX0_isSingle 29 = .ok (.iconst 2, 1) := by decide +kernel
theorem dX0_isSingle_30 : decode cX0_isSingle 30 = .ok (.if_icmp .ne 16, 3) := by decide +kernel
theorem dX0_isSingle_33 : decode cX0_isSingle 33 = .ok (.iload_n 0, 1) := by decide +kernel
theorem dX0_isSingle_34 : decode cX0_isSingle 34 = .ok (.bipush 14, 2) := by decide +kernel
theorem dX0_isSingle_36 : decode cX0_isSingle 36 = .ok (.invokestatic 79, 3) := by decide +kernel
theorem dX0_isSingle_39 : decode cX0_isSingle 39 = .ok (.ifCond .eq 7, 3) := by decide +kernel
theorem dX0_isSingle_42 : decode cX0_isSingle 42 = .ok (.iconst 1, 1) := by decide +kernel
theorem dX0_isSingle_43 : decode cX0_isSingle 43 = .ok (.goto 17, 3) := by decide +kernel
theorem dX0_isSingle_46 : decode cX0_isSingle 46 = .ok (.iconst 0, 1) := by decide +kernel
theorem dX0_isSingle_47 : decode cX0_isSingle 47 = .ok (.goto 13, 3) := by decide +kernel
theorem dX0_isSingle_50 : decode cX0_isSingle 50 = .ok (.iload_n 1, 1) := by decide +kernel
theorem dX0_isSingle_51 : decode cX0_isSingle 51 = .ok (.iconst 2, 1) := by decide +kernel
theorem dX0_isSingle_52 : decode cX0_isSingle 52 = .ok (.if_icmp .eq 7, 3) := by decide +kernel
theorem dX0_isSingle_55 : decode cX0_isSingle 55 = .ok (.iconst 1, 1) := by decide +kernel
theorem dX0_isSingle_56 : decode cX0_isSingle 56 = .ok (.goto 4, 3) := by decide +kernel
theorem dX0_isSingle_59 : decode cX0_isSingle 59 = .ok (.iconst 0, 1) := by decide +kernel
theorem dX0_isSingle_60 : decode cX0_isSingle 60 = .ok (.ireturn, 1) := by decide +kernel
def F_X0_isSingle_c19 (a0 : Int32) (w1 : Int32) : Bool := (if (F_X1_isOne a0 (21 : Int32)) = true then (if w1 = (2 : Int32) then (if (F_X1_isOne a0 (14 : Int32)) = true then true else false) else false) else (if w1 = (2 : Int32) then false else true))
def F_X0_isSingle (a0 : Int32) : Bool := (if (F_X1_isOne a0 (24 : Int32)) = true then true else (F_X0_isSingle_c19 a0 (F_X1_field a0 (10 : Int32) (2 : Int32))))
set_option maxHeartbeats 4000000 in
set_option maxRecDepth 100000 in
theorem c_X0_isSingle (l : Launch) (a0 : Int32) (res : Bool) (hf : F_X0_isSingle a0 = res) : Met l yX0_isSingle (wsC yX0_isSingle cX0_isSingle 2 (some .boolean)) { frames := 1, cells := 0, slots := 0, locals := 22 } (fun v _ => v = ([.int a0] : List Value).toArray) (gS (some (.int (zB res)))) 0 0 (fun _ => False) := by
  refine mk_s_z (own := RX0) (by decide) rfl _ (Nat.le_of_ble_eq_true rfl) (fun p e s m below meth c H locs Q ls S hl hend => ?_)
  have hx := S.1
  have hb := S.2.1
  have hown := S.2.2.2.1
  have hts := S.2.2.2.2
  have hl : lv_has ls 2 [(0, .int a0)] := hl
  have J_c19 : ∀ (w1 : Int32) (ls : Array Slot), F_X0_isSingle_c19 a0 w1 = res → lv_has ls 2 [(0, .int a0), (1, .int w1)] → W p l e { frames := 1, cells := 0, slots := 0, locals := 22 } s m ([.int a0] : List Value).toArray below meth c H locs 0 0 Q (F0 m 19 ls []) := by
    intro w1 ls hf hl
    unfold F_X0_isSingle_c19 at hf
    refine lv_iload_n hx hb dX0_isSingle_19 rfl (lv_at hl 0 rfl) ?_
    refine lv_bipush (v := 21) hx hb dX0_isSingle_20 (by decide) ?_
    refine k_X1_isOne (a0 := a0) (a1 := (21 : Int32)) S tl_X0_79 ⟨Nat.le_of_ble_eq_true rfl, Nat.le_of_ble_eq_true rfl⟩ hl.1 (Nat.le_of_ble_eq_true rfl) dX0_isSingle_22 ?_
    refine gz_eq (tgt := 50) hx hb dX0_isSingle_25 (by decide) (fun c_25 => ?_) (fun c_25 => ?_)
    · rw [if_neg c_25] at hf
      refine lv_iload_n hx hb dX0_isSingle_50 rfl (lv_at hl 1 rfl) ?_
      refine lv_iconst (v := 2) hx hb dX0_isSingle_51 (by decide) ?_
      refine lv_icmp_eq (tgt := 59) hx hb dX0_isSingle_52 (by decide) (fun c_52 => ?_) (fun c_52 => ?_)
      · rw [if_pos c_52] at hf
        refine lv_iconst (v := 0) hx hb dX0_isSingle_59 (by decide) ?_
        exact hend false 60 ls hf dX0_isSingle_60
      · rw [if_neg c_52] at hf
        refine lv_iconst (v := 1) hx hb dX0_isSingle_55 (by decide) ?_
        refine lv_goto (tgt := 60) hx hb dX0_isSingle_56 (by decide) ?_
        exact hend true 60 ls hf dX0_isSingle_60
    · rw [if_pos c_25] at hf
      refine lv_iload_n hx hb dX0_isSingle_28 rfl (lv_at hl 1 rfl) ?_
      refine lv_iconst (v := 2) hx hb dX0_isSingle_29 (by decide) ?_
      refine lv_icmp_ne (tgt := 46) hx hb dX0_isSingle_30 (by decide) (fun c_30 => ?_) (fun c_30 => ?_)
      · rw [if_neg c_30] at hf
        refine lv_iconst (v := 0) hx hb dX0_isSingle_46 (by decide) ?_
        refine lv_goto (tgt := 60) hx hb dX0_isSingle_47 (by decide) ?_
        exact hend false 60 ls hf dX0_isSingle_60
      · rw [if_pos c_30] at hf
        refine lv_iload_n hx hb dX0_isSingle_33 rfl (lv_at hl 0 rfl) ?_
        refine lv_bipush (v := 14) hx hb dX0_isSingle_34 (by decide) ?_
        refine k_X1_isOne (a0 := a0) (a1 := (14 : Int32)) S tl_X0_79 ⟨Nat.le_of_ble_eq_true rfl, Nat.le_of_ble_eq_true rfl⟩ hl.1 (Nat.le_of_ble_eq_true rfl) dX0_isSingle_36 ?_
        refine gz_eq (tgt := 46) hx hb dX0_isSingle_39 (by decide) (fun c_39 => ?_) (fun c_39 => ?_)
        · rw [if_neg c_39] at hf
          refine lv_iconst (v := 0) hx hb dX0_isSingle_46 (by decide) ?_
          refine lv_goto (tgt := 60) hx hb dX0_isSingle_47 (by decide) ?_
          exact hend false 60 ls hf dX0_isSingle_60
        · rw [if_pos c_39] at hf
          refine lv_iconst (v := 1) hx hb dX0_isSingle_42 (by decide) ?_
          refine lv_goto (tgt := 60) hx hb dX0_isSingle_43 (by decide) ?_
          exact hend true 60 ls hf dX0_isSingle_60
  unfold F_X0_isSingle at hf
  refine lv_iload_n hx hb dX0_isSingle_0 rfl (lv_at hl 0 rfl) ?_
  refine lv_bipush (v := 24) hx hb dX0_isSingle_1 (by decide) ?_
  refine k_X1_isOne (a0 := a0) (a1 := (24 : Int32)) S tl_X0_79 ⟨Nat.le_of_ble_eq_true rfl, Nat.le_of_ble_eq_true rfl⟩ hl.1 (Nat.le_of_ble_eq_true rfl) dX0_isSingle_3 ?_
  refine gz_eq (tgt := 11) hx hb dX0_isSingle_6 (by decide) (fun c_6 => ?_) (fun c_6 => ?_)
  · rw [if_neg c_6] at hf
    refine lv_iload_n hx hb dX0_isSingle_11 rfl (lv_at hl 0 rfl) ?_
    refine lv_bipush (v := 10) hx hb dX0_isSingle_12 (by decide) ?_
    refine lv_iconst (v := 2) hx hb dX0_isSingle_14 (by decide) ?_
    refine k_X1_field (a0 := a0) (a1 := (10 : Int32)) (a2 := (2 : Int32)) S tl_X0_21 ⟨Nat.le_of_ble_eq_true rfl, Nat.le_of_ble_eq_true rfl⟩ hl.1 (Nat.le_of_ble_eq_true rfl) dX0_isSingle_15 ?_
    refine lv_istore_n (lv' := [(1, .int (F_X1_field a0 (10 : Int32) (2 : Int32))), (0, .int a0)]) hx hb dX0_isSingle_18 rfl hl (by decide) rfl (fun ls hl => ?_)
    exact J_c19 (F_X1_field a0 (10 : Int32) (2 : Int32)) ls hf (lv_sub hl [1, 0] rfl)
  · rw [if_pos c_6] at hf
    refine lv_iconst (v := 1) hx hb dX0_isSingle_9 (by decide) ?_
    exact hend true 10 ls hf dX0_isSingle_10
theorem k_X0_isSingle {p : Program} {l : Launch} {e : Env} {R : Room} {s : State} {m : MethodId} {args : Array Value} {below : List Frame} {meth : Method} {c : Code} {H : Heap} {locs : List Loc} {Q : State → Prop} {cc : ByteArray} {pc : Nat} {ls : Array Slot} {rest : List Value} {own : String} {index nL : Nat} {a0 : Int32} (S : CallFix p m c cc nL s args tbG own) (hl : Cond.methodLink own index yX0_isSingle ∈ tbG) (hR : 1 + 1 ≤ R.frames ∧ 8 + (2 + 11) + 22 ≤ R.locals) (hsz : ls.size = nL) (hcat : (rest.map fun v => v.category).sum ≤ 8) (hdg : decode cc pc = .ok (.invokestatic index, 3)) (kk : W p l e R s m args below meth c H locs 0 0 Q (F0 m (pc + 3) ls (.int (zB (F_X0_isSingle a0)) :: rest))) : W p l e R s m args below meth c H locs 0 0 Q (F0 m pc ls (.int a0 :: rest)) :=
  ks (As := [.int a0]) (ov := some (.int (zB (F_X0_isSingle a0)))) S (c_X0_isSingle l a0 _ rfl) ⟨tb_cB 1 S.2.2.2.2 tc_X0_isSingle ti_X0 hl rfl rfl (by decide +kernel) hR, S.2.2.2.2 _ ts_X0_isSingle⟩ rfl hsz rfl hcat hdg kk

theorem dX8_stack_0 : decode cX8_stack 0 = .ok (.bipush 31, 2) := by decide +kernel
theorem dX8_stack_2 : decode cX8_stack 2 = .ok (.aload_n 0, 1) := by decide +kernel
theorem dX8_stack_3 : decode cX8_stack 3 = .ok (.getfield 9, 3) := by decide +kernel
theorem dX8_stack_6 : decode cX8_stack 6 = .ok (.bipush 43, 2) := by decide +kernel
theorem dX8_stack_8 : decode cX8_stack 8 = .ok (.laload, 1) := by decide +kernel
theorem dX8_stack_9 : decode cX8_stack 9 = .ok (.aload_n 0, 1) := by decide +kernel
theorem dX8_stack_10 : decode cX8_stack 10 = .ok (.getfield 9, 3) := by decide +kernel
theorem dX8_stack_13 : decode cX8_stack 13 = .ok (.bipush 44, 2) := by decide +kernel
theorem dX8_stack_15 : decode cX8_stack 15 = .ok (.laload, 1) := by decide +kernel
theorem dX8_stack_16 : decode cX8_stack 16 = .ok (.land, 1) := by decide +kernel
theorem dX8_stack_17 : decode cX8_stack 17 = .ok (.l2i, 1) := by decide +kernel
theorem dX8_stack_18 : decode cX8_stack 18 = .ok (.iadd, 1) := by decide +kernel
theorem dX8_stack_19 : decode cX8_stack 19 = .ok (.ireturn, 1) := by decide +kernel
def F_X8_stack (σ : XS)  : Int32 := ((31 : Int32) + ((xP σ (43 : Int32).toNatClampNeg) &&& (xP σ (44 : Int32).toNatClampNeg)).toInt32)
set_option maxHeartbeats 4000000 in
set_option maxRecDepth 100000 in
theorem c_X8_stack (l : Launch) (z : Cx) (r : Nat → Nat) (σ : XS) (res : Int32) (hf : F_X8_stack σ = res) : Met l yX8_stack (wsC yX8_stack cX8_stack 1 (some .int)) { frames := 0, cells := 0, slots := 0, locals := 0 } (rPc z (xW z r σ) [.ref (r 3)]) (gS (some (.int res))) 0 0 (fun _ => False) := by
  refine mk_r_i (own := RX8) (by decide) rfl _ (Nat.le_of_ble_eq_true rfl) (fun p e s m below meth c H locs Q ls S hK hP hl hend => ?_)
  have hx := S.1
  have hb := S.2.1
  have hown := S.2.2.2.1
  have hts := S.2.2.2.2
  have hl : lv_has ls 1 [(0, .ref (r 3))] := hl
  unfold F_X8_stack at hf
  refine lv_bipush (v := 31) hx hb dX8_stack_0 (by decide) ?_
  refine lv_aload_n hx hb dX8_stack_2 rfl (lv_at hl 0 rfl) ?_
  refine fg_X8_parts S hK hP tf_X8_9 dX8_stack_3 ?_
  refine lv_bipush (v := 43) hx hb dX8_stack_6 (by decide) ?_
  refine al_xP S hK hP (show vp_in (43 : Int32) 46 by unfold vp_in; decide) dX8_stack_8 ?_
  refine lv_aload_n hx hb dX8_stack_9 rfl (lv_at hl 0 rfl) ?_
  refine fg_X8_parts S hK hP tf_X8_9 dX8_stack_10 ?_
  refine lv_bipush (v := 44) hx hb dX8_stack_13 (by decide) ?_
  refine al_xP S hK hP (show vp_in (44 : Int32) 46 by unfold vp_in; decide) dX8_stack_15 ?_
  refine lv_land hx hb dX8_stack_16 ?_
  refine lv_l2i hx hb dX8_stack_17 rfl ?_
  refine lv_iadd hx hb dX8_stack_18 ?_
  exact hend ((31 : Int32) + ((xP σ (43 : Int32).toNatClampNeg) &&& (xP σ (44 : Int32).toNatClampNeg)).toInt32) 19 ls hf dX8_stack_19
theorem k_X8_stack {p : Program} {l : Launch} {e : Env} {R : Room} {s : State} {m : MethodId} {args : Array Value} {below : List Frame} {meth : Method} {c : Code} {H : Heap} {locs : List Loc} {Q : State → Prop} {cc : ByteArray} {pc : Nat} {ls : Array Slot} {rest : List Value} {own : String} {index nL : Nat} {z : Cx} {r : Nat → Nat} {σ : XS} (S : CallFix p m c cc nL s args tbG own) (hK : va_K z.1 vwCl (cxT z) s) (hP : va_P z.1 vwCl (xW z r σ) H) (hl : Cond.methodLink own index yX8_stack ∈ tbG) (hR : 0 + 1 ≤ R.frames ∧ 8 + (1 + 11) + 0 ≤ R.locals) (hsz : ls.size = nL) (hcat : (rest.map fun v => v.category).sum ≤ 8) (hdg : decode cc pc = .ok (.invokevirtual index, 3)) (kk : W p l e R s m args below meth c H locs 0 0 Q (F0 m (pc + 3) ls (.int (F_X8_stack σ) :: rest))) : W p l e R s m args below meth c H locs 0 0 Q (F0 m pc ls (.ref (r 3) :: rest)) :=
  kr (As := []) (ov := some (.int (F_X8_stack σ))) (q0 := 3) (ci := 7) S hK hP (c_X8_stack l z r σ _ rfl) ⟨tb_cB 0 S.2.2.2.2 tc_X8_stack ti_X8 hl rfl rfl (by decide +kernel) hR, S.2.2.2.2 _ tm_X8_stack, S.2.2.2.2 _ te_X8_stack⟩ rfl rfl rfl rfl hsz rfl hcat hdg kk

theorem dX8_part_0 : decode cX8_part 0 = .ok (.iload_n 1, 1) := by decide +kernel
theorem dX8_part_1 : decode cX8_part 1 = .ok (.ifCond .lt 18, 3) := by decide +kernel
theorem dX8_part_4 : decode cX8_part 4 = .ok (.iload_n 1, 1) := by decide +kernel
theorem dX8_part_5 : decode cX8_part 5 = .ok (.bipush 46, 2) := by decide +kernel
theorem dX8_part_7 : decode cX8_part 7 = .ok (.if_icmp .ge 12, 3) := by decide +kernel
theorem dX8_part_10 : decode cX8_part 10 = .ok (.aload_n 0, 1) := by decide +kernel
theorem dX8_part_11 : decode cX8_part 11 = .ok (.getfield 9, 3) := by decide +kernel
theorem dX8_part_14 : decode cX8_part 14 = .ok (.iload_n 1, 1) := by decide +kernel
theorem dX8_part_15 : decode cX8_part 15 = .ok (.laload, 1) := by decide +kernel
theorem dX8_part_16 : decode cX8_part 16 = .ok (.goto 4, 3) := by decide +kernel
theorem dX8_part_19 : decode cX8_part 19 = .ok (.lconst 0, 1) := by decide +kernel
theorem dX8_part_20 : decode cX8_part 20 = .ok (.lreturn, 1) := by decide +kernel
def F_X8_part (σ : XS) (a0 : Int32) : Int64 := (if a0 < 0 then (0 : Int64) else (if (46 : Int32) ≤ a0 then (0 : Int64) else (xP σ a0.toNatClampNeg)))
set_option maxHeartbeats 4000000 in
set_option maxRecDepth 100000 in
theorem c_X8_part (l : Launch) (z : Cx) (r : Nat → Nat) (σ : XS) (a0 : Int32) (res : Int64) (hf : F_X8_part σ a0 = res) : Met l yX8_part (wsC yX8_part cX8_part 2 (some .long)) { frames := 0, cells := 0, slots := 0, locals := 0 } (rPc z (xW z r σ) [.ref (r 3), .int a0]) (gS (some (.long res))) 0 0 (fun _ => False) := by
  refine mk_r_l (own := RX8) (by decide) rfl _ (Nat.le_of_ble_eq_true rfl) (fun p e s m below meth c H locs Q ls S hK hP hl hend => ?_)
  have hx := S.1
  have hb := S.2.1
  have hown := S.2.2.2.1
  have hts := S.2.2.2.2
  have hl : lv_has ls 2 [(0, .ref (r 3)), (1, .int a0)] := hl
  unfold F_X8_part at hf
  refine lv_iload_n hx hb dX8_part_0 rfl (lv_at hl 1 rfl) ?_
  refine lv_if_lt (tgt := 19) hx hb dX8_part_1 (by decide) (fun c_1 => ?_) (fun c_1 => ?_)
  · rw [if_pos c_1] at hf
    refine lv_lconst (v := 0) hx hb dX8_part_19 (by decide) ?_
    exact hend (0 : Int64) 20 ls hf dX8_part_20
  · rw [if_neg c_1] at hf
    refine lv_iload_n hx hb dX8_part_4 rfl (lv_at hl 1 rfl) ?_
    refine lv_bipush (v := 46) hx hb dX8_part_5 (by decide) ?_
    refine lv_icmp_ge (tgt := 19) hx hb dX8_part_7 (by decide) (fun c_7 => ?_) (fun c_7 => ?_)
    · rw [if_pos c_7] at hf
      refine lv_lconst (v := 0) hx hb dX8_part_19 (by decide) ?_
      exact hend (0 : Int64) 20 ls hf dX8_part_20
    · rw [if_neg c_7] at hf
      refine lv_aload_n hx hb dX8_part_10 rfl (lv_at hl 0 rfl) ?_
      refine fg_X8_parts S hK hP tf_X8_9 dX8_part_11 ?_
      refine lv_iload_n hx hb dX8_part_14 rfl (lv_at hl 1 rfl) ?_
      refine al_xP S hK hP (vin_of (N := 46) rfl c_1 c_7) dX8_part_15 ?_
      refine lv_goto (tgt := 20) hx hb dX8_part_16 (by decide) ?_
      exact hend (xP σ a0.toNatClampNeg) 20 ls hf dX8_part_20
theorem k_X8_part {p : Program} {l : Launch} {e : Env} {R : Room} {s : State} {m : MethodId} {args : Array Value} {below : List Frame} {meth : Method} {c : Code} {H : Heap} {locs : List Loc} {Q : State → Prop} {cc : ByteArray} {pc : Nat} {ls : Array Slot} {rest : List Value} {own : String} {index nL : Nat} {z : Cx} {r : Nat → Nat} {σ : XS} {a0 : Int32} (S : CallFix p m c cc nL s args tbG own) (hK : va_K z.1 vwCl (cxT z) s) (hP : va_P z.1 vwCl (xW z r σ) H) (hl : Cond.methodLink own index yX8_part ∈ tbG) (hR : 0 + 1 ≤ R.frames ∧ 8 + (2 + 11) + 0 ≤ R.locals) (hsz : ls.size = nL) (hcat : (rest.map fun v => v.category).sum ≤ 8) (hdg : decode cc pc = .ok (.invokevirtual index, 3)) (kk : W p l e R s m args below meth c H locs 0 0 Q (F0 m (pc + 3) ls (.long (F_X8_part σ a0) :: rest))) : W p l e R s m args below meth c H locs 0 0 Q (F0 m pc ls (.int a0 :: .ref (r 3) :: rest)) :=
  kr (As := [.int a0]) (ov := some (.long (F_X8_part σ a0))) (q0 := 3) (ci := 7) S hK hP (c_X8_part l z r σ a0 _ rfl) ⟨tb_cB 1 S.2.2.2.2 tc_X8_part ti_X8 hl rfl rfl (by decide +kernel) hR, S.2.2.2.2 _ tm_X8_part, S.2.2.2.2 _ te_X8_part⟩ rfl rfl rfl rfl hsz rfl hcat hdg kk

theorem dX8_registerOrStack_0 : decode cX8_registerOrStack 0 = .ok (.aload_n 0, 1) := by decide +kernel
theorem dX8_registerOrStack_1 : decode cX8_registerOrStack 1 = .ok (.iload_n 1, 1) := by decide +kernel
theorem dX8_registerOrStack_2 : decode cX8_registerOrStack 2 = .ok (.bipush 31, 2) := by decide +kernel
theorem dX8_registerOrStack_4 : decode cX8_registerOrStack 4 = .ok (.if_icmp .ne 10, 3) := by decide +kernel
theorem dX8_registerOrStack_7 : decode cX8_registerOrStack 7 = .ok (.aload_n 0, 1) := by decide +kernel
theorem dX8_registerOrStack_8 : decode cX8_registerOrStack 8 = .ok (.invokevirtual 23, 3) := by decide +kernel
theorem dX8_registerOrStack_11 : decode cX8_registerOrStack 11 = .ok (.goto 4, 3) := by decide +kernel
theorem dX8_registerOrStack_14 : decode cX8_registerOrStack 14 = .ok (.iload_n 1, 1) := by decide +kernel
theorem dX8_registerOrStack_15 : decode cX8_registerOrStack 15 = .ok (.invokevirtual 15, 3) := by decide +kernel
theorem dX8_registerOrStack_18 : decode cX8_registerOrStack 18 = .ok (.lreturn, 1) := by decide +kernel
def F_X8_registerOrStack_c15 (σ : XS) (a0 : Int32) (s1 : Int32) : Int64 := (F_X8_part σ s1)
def F_X8_registerOrStack (σ : XS) (a0 : Int32) : Int64 := (if a0 = (31 : Int32) then (F_X8_registerOrStack_c15 σ a0 (F_X8_stack σ)) else (F_X8_registerOrStack_c15 σ a0 a0))
set_option maxHeartbeats 4000000 in
set_option maxRecDepth 100000 in
theorem c_X8_registerOrStack (l : Launch) (z : Cx) (r : Nat → Nat) (σ : XS) (a0 : Int32) (res : Int64) (hf : F_X8_registerOrStack σ a0 = res) : Met l yX8_registerOrStack (wsC yX8_registerOrStack cX8_registerOrStack 2 (some .long)) { frames := 1, cells := 0, slots := 0, locals := 21 } (rPc z (xW z r σ) [.ref (r 3), .int a0]) (gS (some (.long res))) 0 0 (fun _ => False) := by
  refine mk_r_l (own := RX8) (by decide) rfl _ (Nat.le_of_ble_eq_true rfl) (fun p e s m below meth c H locs Q ls S hK hP hl hend => ?_)
  have hx := S.1
  have hb := S.2.1
  have hown := S.2.2.2.1
  have hts := S.2.2.2.2
  have hl : lv_has ls 2 [(0, .ref (r 3)), (1, .int a0)] := hl
  have J_c15 : ∀ (s1 : Int32) (ls : Array Slot), F_X8_registerOrStack_c15 σ a0 s1 = res → lv_has ls 2 [] → W p l e { frames := 1, cells := 0, slots := 0, locals := 21 } s m ([.ref (r 3), .int a0] : List Value).toArray below meth c H locs 0 0 Q (F0 m 15 ls [.int s1, .ref (r 3)]) := by
    intro s1 ls hf hl
    unfold F_X8_registerOrStack_c15 at hf
    refine k_X8_part (a0 := s1) S hK hP tl_X8_15 ⟨Nat.le_of_ble_eq_true rfl, Nat.le_of_ble_eq_true rfl⟩ hl.1 (Nat.le_of_ble_eq_true rfl) dX8_registerOrStack_15 ?_
    exact hend (F_X8_part σ s1) 18 ls hf dX8_registerOrStack_18
  unfold F_X8_registerOrStack at hf
  refine lv_aload_n hx hb dX8_registerOrStack_0 rfl (lv_at hl 0 rfl) ?_
  refine lv_iload_n hx hb dX8_registerOrStack_1 rfl (lv_at hl 1 rfl) ?_
  refine lv_bipush (v := 31) hx hb dX8_registerOrStack_2 (by decide) ?_
  refine lv_icmp_ne (tgt := 14) hx hb dX8_registerOrStack_4 (by decide) (fun c_4 => ?_) (fun c_4 => ?_)
  · rw [if_neg c_4] at hf
    refine lv_iload_n hx hb dX8_registerOrStack_14 rfl (lv_at hl 1 rfl) ?_
    exact J_c15 a0 ls hf (lv_sub hl [] rfl)
  · rw [if_pos c_4] at hf
    refine lv_aload_n hx hb dX8_registerOrStack_7 rfl (lv_at hl 0 rfl) ?_
    refine k_X8_stack S hK hP tl_X8_23 ⟨Nat.le_of_ble_eq_true rfl, Nat.le_of_ble_eq_true rfl⟩ hl.1 (Nat.le_of_ble_eq_true rfl) dX8_registerOrStack_8 ?_
    refine lv_goto (tgt := 15) hx hb dX8_registerOrStack_11 (by decide) ?_
    exact J_c15 (F_X8_stack σ) ls hf (lv_sub hl [] rfl)
theorem k_X8_registerOrStack {p : Program} {l : Launch} {e : Env} {R : Room} {s : State} {m : MethodId} {args : Array Value} {below : List Frame} {meth : Method} {c : Code} {H : Heap} {locs : List Loc} {Q : State → Prop} {cc : ByteArray} {pc : Nat} {ls : Array Slot} {rest : List Value} {own : String} {index nL : Nat} {z : Cx} {r : Nat → Nat} {σ : XS} {a0 : Int32} (S : CallFix p m c cc nL s args tbG own) (hK : va_K z.1 vwCl (cxT z) s) (hP : va_P z.1 vwCl (xW z r σ) H) (hl : Cond.methodLink own index yX8_registerOrStack ∈ tbG) (hR : 1 + 1 ≤ R.frames ∧ 8 + (2 + 11) + 21 ≤ R.locals) (hsz : ls.size = nL) (hcat : (rest.map fun v => v.category).sum ≤ 8) (hdg : decode cc pc = .ok (.invokevirtual index, 3)) (kk : W p l e R s m args below meth c H locs 0 0 Q (F0 m (pc + 3) ls (.long (F_X8_registerOrStack σ a0) :: rest))) : W p l e R s m args below meth c H locs 0 0 Q (F0 m pc ls (.int a0 :: .ref (r 3) :: rest)) :=
  kr (As := [.int a0]) (ov := some (.long (F_X8_registerOrStack σ a0))) (q0 := 3) (ci := 7) S hK hP (c_X8_registerOrStack l z r σ a0 _ rfl) ⟨tb_cB 1 S.2.2.2.2 tc_X8_registerOrStack ti_X8 hl rfl rfl (by decide +kernel) hR, S.2.2.2.2 _ tm_X8_registerOrStack, S.2.2.2.2 _ te_X8_registerOrStack⟩ rfl rfl rfl rfl hsz rfl hcat hdg kk

theorem dX0_stackIsCrooked_0 : decode cX0_stackIsCrooked 0 = .ok (.iload_n 1, 1) := by decide +kernel
theorem dX0_stackIsCrooked_1 : decode cX0_stackIsCrooked 1 = .ok (.bipush 31, 2) := by decide +kernel
theorem dX0_stackIsCrooked_3 : decode cX0_stackIsCrooked 3 = .ok (.if_icmp .ne 24, 3) := by decide +kernel
theorem dX0_stackIsCrooked_6 : decode cX0_stackIsCrooked 6 = .ok (.aload_n 0, 1) := by decide +kernel
theorem dX0_stackIsCrooked_7 : decode cX0_stackIsCrooked 7 = .ok (.getfield 13, 3) := by decide +kernel
theorem dX0_stackIsCrooked_10 : decode cX0_stackIsCrooked 10 = .ok (.iload_n 1, 1) := by decide +kernel
theorem dX0_stackIsCrooked_11 : decode cX0_stackIsCrooked 11 = .ok (.invokevirtual 44, 3) := by decide +kernel
theorem dX0_stackIsCrooked_14 : decode cX0_stackIsCrooked 14 = .ok (.ldc2_w 99, 3) := by decide +kernel
theorem dX0_stackIsCrooked_17 : decode cX0_stackIsCrooked 17 = .ok (.land, 1) := by decide +kernel
theorem dX0_stackIsCrooked_18 : decode cX0_stackIsCrooked 18 = .ok (.lconst 0, 1) := by decide +kernel
theorem dX0_stackIsCrooked_19 : decode cX0_stackIsCrooked 19 = .ok (.lcmp, 1) := by decide +kernel
theorem dX0_stackIsCrooked_20 : decode cX0_stackIsCrooked 20 = .ok (.ifCond .eq 7, 3) := by decide +kernel
theorem dX0_stackIsCrooked_23 : decode cX0_stackIsCrooked 23 = .ok (.iconst 1, 1) := by decide +kernel
theorem dX0_stackIsCrooked_24 : decode cX0_stackIsCrooked 24 = .ok (.goto 4, 3) := by decide +kernel
theorem dX0_stackIsCrooked_27 : decode cX0_stackIsCrooked 27 = .ok (.iconst 0, 1) := by decide +kernel
theorem dX0_stackIsCrooked_28 : decode cX0_stackIsCrooked 28 = .ok (.ireturn, 1) := by decide +kernel
def F_X0_stackIsCrooked (σ : XS) (a0 : Int32) : Bool := (if a0 = (31 : Int32) then (if ((F_X8_registerOrStack σ a0) &&& (15 : Int64)) = (0 : Int64) then false else true) else false)
set_option maxHeartbeats 4000000 in
set_option maxRecDepth 100000 in
theorem c_X0_stackIsCrooked (l : Launch) (z : Cx) (r : Nat → Nat) (σ : XS) (a0 : Int32) (res : Bool) (hf : F_X0_stackIsCrooked σ a0 = res) : Met l yX0_stackIsCrooked (wsC yX0_stackIsCrooked cX0_stackIsCrooked 2 (some .boolean)) { frames := 2, cells := 0, slots := 0, locals := 42 } (rPc z (xW z r σ) [.ref (r 10), .int a0]) (gS (some (.int (zB res)))) 0 0 (fun _ => False) := by
  refine mk_r_z (own := RX0) (by decide) rfl _ (Nat.le_of_ble_eq_true rfl) (fun p e s m below meth c H locs Q ls S hK hP hl hend => ?_)
  have hx := S.1
  have hb := S.2.1
  have hown := S.2.2.2.1
  have hts := S.2.2.2.2
  have hl : lv_has ls 2 [(0, .ref (r 10)), (1, .int a0)] := hl
  unfold F_X0_stackIsCrooked at hf
  refine lv_iload_n hx hb dX0_stackIsCrooked_0 rfl (lv_at hl 1 rfl) ?_
  refine lv_bipush (v := 31) hx hb dX0_stackIsCrooked_1 (by decide) ?_
  refine lv_icmp_ne (tgt := 27) hx hb dX0_stackIsCrooked_3 (by decide) (fun c_3 => ?_) (fun c_3 => ?_)
  · rw [if_neg c_3] at hf
    refine lv_iconst (v := 0) hx hb dX0_stackIsCrooked_27 (by decide) ?_
    exact hend false 28 ls hf dX0_stackIsCrooked_28
  · rw [if_pos c_3] at hf
    refine lv_aload_n hx hb dX0_stackIsCrooked_6 rfl (lv_at hl 0 rfl) ?_
    refine fg_X0_state S hK hP tf_X0_13 dX0_stackIsCrooked_7 ?_
    refine lv_iload_n hx hb dX0_stackIsCrooked_10 rfl (lv_at hl 1 rfl) ?_
    refine k_X8_registerOrStack (a0 := a0) S hK hP tl_X0_44 ⟨Nat.le_of_ble_eq_true rfl, Nat.le_of_ble_eq_true rfl⟩ hl.1 (Nat.le_of_ble_eq_true rfl) dX0_stackIsCrooked_11 ?_
    refine lv_ldc2 (v := 15) hx hb hown (hts _ tk_X0_99) dX0_stackIsCrooked_14 ?_
    refine lv_land hx hb dX0_stackIsCrooked_17 ?_
    refine lv_lconst (v := 0) hx hb dX0_stackIsCrooked_18 (by decide) ?_
    refine gl_eq (tgt := 27) hx hb dX0_stackIsCrooked_19 dX0_stackIsCrooked_20 (by decide) (fun c_19 => ?_) (fun c_19 => ?_)
    · rw [if_pos c_19] at hf
      refine lv_iconst (v := 0) hx hb dX0_stackIsCrooked_27 (by decide) ?_
      exact hend false 28 ls hf dX0_stackIsCrooked_28
    · rw [if_neg c_19] at hf
      refine lv_iconst (v := 1) hx hb dX0_stackIsCrooked_23 (by decide) ?_
      refine lv_goto (tgt := 28) hx hb dX0_stackIsCrooked_24 (by decide) ?_
      exact hend true 28 ls hf dX0_stackIsCrooked_28
theorem k_X0_stackIsCrooked {p : Program} {l : Launch} {e : Env} {R : Room} {s : State} {m : MethodId} {args : Array Value} {below : List Frame} {meth : Method} {c : Code} {H : Heap} {locs : List Loc} {Q : State → Prop} {cc : ByteArray} {pc : Nat} {ls : Array Slot} {rest : List Value} {own : String} {index nL : Nat} {z : Cx} {r : Nat → Nat} {σ : XS} {a0 : Int32} (S : CallFix p m c cc nL s args tbG own) (hK : va_K z.1 vwCl (cxT z) s) (hP : va_P z.1 vwCl (xW z r σ) H) (hl : Cond.methodLink own index yX0_stackIsCrooked ∈ tbG) (hR : 2 + 1 ≤ R.frames ∧ 8 + (2 + 11) + 42 ≤ R.locals) (hsz : ls.size = nL) (hcat : (rest.map fun v => v.category).sum ≤ 8) (hdg : decode cc pc = .ok (.invokevirtual index, 3)) (kk : W p l e R s m args below meth c H locs 0 0 Q (F0 m (pc + 3) ls (.int (zB (F_X0_stackIsCrooked σ a0)) :: rest))) : W p l e R s m args below meth c H locs 0 0 Q (F0 m pc ls (.int a0 :: .ref (r 10) :: rest)) :=
  kr (As := [.int a0]) (ov := some (.int (zB (F_X0_stackIsCrooked σ a0)))) (q0 := 10) (ci := 0) S hK hP (c_X0_stackIsCrooked l z r σ a0 _ rfl) ⟨tb_cB 1 S.2.2.2.2 tc_X0_stackIsCrooked ti_X0 hl rfl rfl (by decide +kernel) hR, S.2.2.2.2 _ tm_X0_stackIsCrooked, S.2.2.2.2 _ te_X0_stackIsCrooked⟩ rfl rfl rfl rfl hsz rfl hcat hdg kk

theorem dX8_tell_0 : decode cX8_tell 0 = .ok (.aload_n 0, 1) := by decide +kernel
theorem dX8_tell_1 : decode cX8_tell 1 = .ok (.getfield 9, 3) := by decide +kernel
theorem dX8_tell_4 : decode cX8_tell 4 = .ok (.bipush 39, 2) := by decide +kernel
theorem dX8_tell_6 : decode cX8_tell 6 = .ok (.iload_n 1, 1) := by decide +kernel
theorem dX8_tell_7 : decode cX8_tell 7 = .ok (.i2l, 1) := by decide +kernel
theorem dX8_tell_8 : decode cX8_tell 8 = .ok (.bipush 26, 2) := by decide +kernel
theorem dX8_tell_10 : decode cX8_tell 10 = .ok (.lshl, 1) := by decide +kernel
theorem dX8_tell_11 : decode cX8_tell 11 = .ok (.ldc2_w 53, 3) := by decide +kernel
theorem dX8_tell_14 : decode cX8_tell 14 = .ok (.ladd, 1) := by decide +kernel
theorem dX8_tell_15 : decode cX8_tell 15 = .ok (.iload_n 2, 1) := by decide +kernel
theorem dX8_tell_16 : decode cX8_tell 16 = .ok (.i2l, 1) := by decide +kernel
theorem dX8_tell_17 : decode cX8_tell 17 = .ok (.ladd, 1) := by decide +kernel
theorem dX8_tell_18 : decode cX8_tell 18 = .ok (.lastore, 1) := by decide +kernel
theorem dX8_tell_19 : decode cX8_tell 19 = .ok (.return_, 1) := by decide +kernel
def F_X8_tell (σ : XS) (a0 : Int32) (a1 : Int32) : XS := (xuP σ (vp_updL (xP σ) (39 : Int32).toNatClampNeg (((j_lshl a0.toInt64 (26 : Int32)) + (33554432 : Int64)) + a1.toInt64)))
set_option maxHeartbeats 4000000 in
set_option maxRecDepth 100000 in
theorem c_X8_tell (l : Launch) (z : Cx) (r : Nat → Nat) (σ : XS) (a0 : Int32) (a1 : Int32) (sz : Nat) (res : XS) (hf : F_X8_tell σ a0 a1 = res) : Met l yX8_tell (wsC yX8_tell cX8_tell 3 none) { frames := 0, cells := 0, slots := 0, locals := 0 } (mPc z (xW z r σ) sz [.ref (r 3), .int a0, .int a1]) (gM z (va_A (xW z r σ) sz) none (xW z r res)) 0 0 (va_A (xW z r σ) sz) := by
  refine mk_m_v (own := RX8) (wf := xW z r) (by decide) rfl sz _ (Nat.le_of_ble_eq_true rfl) (fun p e s m below meth c A H locs Q ls S hK hA hP hD hS hl hend => ?_)
  have hx := S.1
  have hb := S.2.1
  have hown := S.2.2.2.1
  have hts := S.2.2.2.2
  have hl : lv_has ls 3 [(0, .ref (r 3)), (1, .int a0), (2, .int a1)] := hl
  unfold F_X8_tell at hf
  refine lv_aload_n hx hb dX8_tell_0 rfl (lv_at hl 0 rfl) ?_
  refine fg_X8_parts S hK hP tf_X8_9 dX8_tell_1 ?_
  refine lv_bipush (v := 39) hx hb dX8_tell_4 (by decide) ?_
  refine lv_iload_n hx hb dX8_tell_6 rfl (lv_at hl 1 rfl) ?_
  refine lv_i2l hx hb dX8_tell_7 rfl ?_
  refine lv_bipush (v := 26) hx hb dX8_tell_8 (by decide) ?_
  refine lv_lshl (v := (j_lshl a0.toInt64 (26 : Int32))) hx hb dX8_tell_10 rfl ?_
  refine lv_ldc2 (v := 33554432) hx hb hown (hts _ tk_X8_53) dX8_tell_11 ?_
  refine lv_ladd hx hb dX8_tell_14 ?_
  refine lv_iload_n hx hb dX8_tell_15 rfl (lv_at hl 2 rfl) ?_
  refine lv_i2l hx hb dX8_tell_16 rfl ?_
  refine lv_ladd hx hb dX8_tell_17 ?_
  refine ar_xP (x := (((j_lshl a0.toInt64 (26 : Int32)) + (33554432 : Int64)) + a1.toInt64)) S hK hP hD hS (show vp_in (39 : Int32) 46 by unfold vp_in; decide) dX8_tell_18 (fun H locs hP hD hS => ?_)
  exact hend (xuP σ (vp_updL (xP σ) (39 : Int32).toNatClampNeg (((j_lshl a0.toInt64 (26 : Int32)) + (33554432 : Int64)) + a1.toInt64))) H locs 19 ls hf hP hD hS dX8_tell_19
theorem k_X8_tell {p : Program} {l : Launch} {e : Env} {R : Room} {s : State} {m : MethodId} {args : Array Value} {below : List Frame} {meth : Method} {c : Code} {H : Heap} {locs : List Loc} {Q : State → Prop} {cc : ByteArray} {pc : Nat} {ls : Array Slot} {rest : List Value} {own : String} {index nL : Nat} {A : Nat → Prop} {z : Cx} {r : Nat → Nat} {σ : XS} {a0 : Int32} {a1 : Int32} (S : CallFix p m c cc nL s args tbG own) (hK : va_K z.1 vwCl (cxT z) s) (hA : ∀ q, s.heap.size ≤ q → A q) (hP : va_P z.1 vwCl (xW z r σ) H) (hD : va_D A (xW z r σ)) (hS : va_S A s.heap H locs) (hl : Cond.methodLink own index yX8_tell ∈ tbG) (hR : 0 + 1 ≤ R.frames ∧ 8 + (3 + 11) + 0 ≤ R.locals) (hsz : ls.size = nL) (hcat : (rest.map fun v => v.category).sum ≤ 8) (hdg : decode cc pc = .ok (.invokevirtual index, 3)) (kk : ∀ (H : Heap) (locs : List Loc), va_P z.1 vwCl (xW z r (F_X8_tell σ a0 a1)) H → va_D A (xW z r (F_X8_tell σ a0 a1)) → va_S A s.heap H locs → W p l e R s m args below meth c H locs 0 0 Q (F0 m (pc + 3) ls (rest))) : W p l e R s m args below meth c H locs 0 0 Q (F0 m pc ls (.int a1 :: .int a0 :: .ref (r 3) :: rest)) :=
  km (As := [.int a0, .int a1]) (ov := none) (w' := xW z r (F_X8_tell σ a0 a1)) (q0 := 3) (ci := 7) S hK hA hP hD hS (c_X8_tell l z r σ a0 a1 H.size _ rfl) ⟨tb_cB 2 S.2.2.2.2 tc_X8_tell ti_X8 hl rfl rfl (by decide +kernel) hR, S.2.2.2.2 _ tm_X8_tell, S.2.2.2.2 _ te_X8_tell⟩ rfl rfl rfl rfl hsz rfl hcat hdg kk

theorem dX8_enter_0 : decode cX8_enter 0 = .ok (.aload_n 0, 1) := by decide +kernel
theorem dX8_enter_1 : decode cX8_enter 1 = .ok (.getfield 9, 3) := by decide +kernel
theorem dX8_enter_4 : decode cX8_enter 4 = .ok (.bipush 43, 2) := by decide +kernel
theorem dX8_enter_6 : decode cX8_enter 6 = .ok (.laload, 1) := by decide +kernel
theorem dX8_enter_7 : decode cX8_enter 7 = .ok (.lconst 0, 1) := by decide +kernel
theorem dX8_enter_8 : decode cX8_enter 8 = .ok (.lcmp, 1) := by decide +kernel
theorem dX8_enter_9 : decode cX8_enter 9 = .ok (.ifCond .ne 7, 3) := by decide +kernel
theorem dX8_enter_12 : decode cX8_enter 12 = .ok (.lconst 0, 1) := by decide +kernel
theorem dX8_enter_13 : decode cX8_enter 13 = .ok (.goto 14, 3) := by decide +kernel
theorem dX8_enter_16 : decode cX8_enter 16 = .ok (.ldc2_w 29, 3) := by decide +kernel
theorem dX8_enter_19 : decode cX8_enter 19 = .ok (.aload_n 0, 1) := by decide +kernel
theorem dX8_enter_20 : decode cX8_enter 20 = .ok (.getfield 9, 3) := by decide +kernel
theorem dX8_enter_23 : decode cX8_enter 23 = .ok (.bipush 44, 2) := by decide +kernel
theorem dX8_enter_25 : decode cX8_enter 25 = .ok (.laload, 1) := by decide +kernel
theorem dX8_enter_26 : decode cX8_enter 26 = .ok (.ladd, 1) := by decide +kernel
theorem dX8_enter_27 : decode cX8_enter 27 = .ok (.lstore 4, 2) := by decide +kernel
theorem dX8_enter_29 : decode cX8_enter 29 = .ok (.aload_n 0, 1) := by decide +kernel
theorem dX8_enter_30 : decode cX8_enter 30 = .ok (.getfield 9, 3) := by decide +kernel
theorem dX8_enter_33 : decode cX8_enter 33 = .ok (.bipush 43, 2) := by decide +kernel
theorem dX8_enter_35 : decode cX8_enter 35 = .ok (.laload, 1) := by decide +kernel
theorem dX8_enter_36 : decode cX8_enter 36 = .ok (.lconst 0, 1) := by decide +kernel
theorem dX8_enter_37 : decode cX8_enter 37 = .ok (.lcmp, 1) := by decide +kernel
theorem dX8_enter_38 : decode cX8_enter 38 = .ok (.ifCond .ne 9, 3) := by decide +kernel
theorem dX8_enter_41 : decode cX8_enter 41 = .ok (.ldc2_w 55, 3) := by decide +kernel
theorem dX8_enter_44 : decode cX8_enter 44 = .ok (.goto 14, 3) := by decide +kernel
theorem dX8_enter_47 : decode cX8_enter 47 = .ok (.ldc2_w 57, 3) := by decide +kernel
theorem dX8_enter_50 : decode cX8_enter 50 = .ok (.aload_n 0, 1) := by decide +kernel
theorem dX8_enter_51 : decode cX8_enter 51 = .ok (.getfield 9, 3) := by decide +kernel
theorem dX8_enter_54 : decode cX8_enter 54 = .ok (.bipush 44, 2) := by decide +kernel
theorem dX8_enter_56 : decode cX8_enter 56 = .ok (.laload, 1) := by decide +kernel
theorem dX8_enter_57 : decode cX8_enter 57 = .ok (.lmul, 1) := by decide +kernel
theorem dX8_enter_58 : decode cX8_enter 58 = .ok (.lstore 6, 2) := by decide +kernel
theorem dX8_enter_60 : decode cX8_enter 60 = .ok (.aload_n 0, 1) := by decide +kernel
theorem dX8_enter_61 : decode cX8_enter 61 = .ok (.getfield 9, 3) := by decide +kernel
theorem dX8_enter_64 : decode cX8_enter 64 = .ok (.bipush 38, 2) := by decide +kernel
theorem dX8_enter_66 : decode cX8_enter 66 = .ok (.aload_n 0, 1) := by decide +kernel
theorem dX8_enter_67 : decode cX8_enter 67 = .ok (.getfield 9, 3) := by decide +kernel
theorem dX8_enter_70 : decode cX8_enter 70 = .ok (.bipush 42, 2) := by decide +kernel
theorem dX8_enter_72 : decode cX8_enter 72 = .ok (.laload, 1) := by decide +kernel
theorem dX8_enter_73 : decode cX8_enter 73 = .ok (.bipush 28, 2) := by decide +kernel
theorem dX8_enter_75 : decode cX8_enter 75 = .ok (.lshl, 1) := by decide +kernel
theorem dX8_enter_76 : decode cX8_enter 76 = .ok (.aload_n 0, 1) := by decide +kernel
theorem dX8_enter_77 : decode cX8_enter 77 = .ok (.getfield 9, 3) := by decide +kernel
theorem dX8_enter_80 : decode cX8_enter 80 = .ok (.bipush 45, 2) := by decide +kernel
theorem dX8_enter_82 : decode cX8_enter 82 = .ok (.laload, 1) := by decide +kernel
theorem dX8_enter_83 : decode cX8_enter 83 = .ok (.bipush 7, 2) := by decide +kernel
theorem dX8_enter_85 : decode cX8_enter 85 = .ok (.lshl, 1) := by decide +kernel
theorem dX8_enter_86 : decode cX8_enter 86 = .ok (.lor, 1) := by decide +kernel
theorem dX8_enter_87 : decode cX8_enter 87 = .ok (.lload 4, 2) := by decide +kernel
theorem dX8_enter_89 : decode cX8_enter 89 = .ok (.lor, 1) := by decide +kernel
theorem dX8_enter_90 : decode cX8_enter 90 = .ok (.lastore, 1) := by decide +kernel
theorem dX8_enter_91 : decode cX8_enter 91 = .ok (.aload_n 0, 1) := by decide +kernel
theorem dX8_enter_92 : decode cX8_enter 92 = .ok (.getfield 9, 3) := by decide +kernel
theorem dX8_enter_95 : decode cX8_enter 95 = .ok (.bipush 37, 2) := by decide +kernel
theorem dX8_enter_97 : decode cX8_enter 97 = .ok (.lload_n 1, 1) := by decide +kernel
theorem dX8_enter_98 : decode cX8_enter 98 = .ok (.lastore, 1) := by decide +kernel
theorem dX8_enter_99 : decode cX8_enter 99 = .ok (.aload_n 0, 1) := by decide +kernel
theorem dX8_enter_100 : decode cX8_enter 100 = .ok (.getfield 9, 3) := by decide +kernel
theorem dX8_enter_103 : decode cX8_enter 103 = .ok (.bipush 43, 2) := by decide +kernel
theorem dX8_enter_105 : decode cX8_enter 105 = .ok (.lconst 1, 1) := by decide +kernel
theorem dX8_enter_106 : decode cX8_enter 106 = .ok (.lastore, 1) := by decide +kernel
theorem dX8_enter_107 : decode cX8_enter 107 = .ok (.aload_n 0, 1) := by decide +kernel
theorem dX8_enter_108 : decode cX8_enter 108 = .ok (.getfield 9, 3) := by decide +kernel
theorem dX8_enter_111 : decode cX8_enter 111 = .ok (.bipush 44, 2) := by decide +kernel
theorem dX8_enter_113 : decode cX8_enter 113 = .ok (.lconst 1, 1) := by decide +kernel
theorem dX8_enter_114 : decode cX8_enter 114 = .ok (.lastore, 1) := by decide +kernel
theorem dX8_enter_115 : decode cX8_enter 115 = .ok (.aload_n 0, 1) := by decide +kernel
theorem dX8_enter_116 : decode cX8_enter 116 = .ok (.getfield 9, 3) := by decide +kernel
theorem dX8_enter_119 : decode cX8_enter 119 = .ok (.bipush 45, 2) := by decide +kernel
theorem dX8_enter_121 : decode cX8_enter 121 = .ok (.lconst 1, 1) := by decide +kernel
theorem dX8_enter_122 : decode cX8_enter 122 = .ok (.lastore, 1) := by decide +kernel
theorem dX8_enter_123 : decode cX8_enter 123 = .ok (.aload_n 0, 1) := by decide +kernel
theorem dX8_enter_124 : decode cX8_enter 124 = .ok (.aload_n 0, 1) := by decide +kernel
theorem dX8_enter_125 : decode cX8_enter 125 = .ok (.getfield 9, 3) := by decide +kernel
theorem dX8_enter_128 : decode cX8_enter 128 = .ok (.bipush 36, 2) := by decide +kernel
theorem dX8_enter_130 : decode cX8_enter 130 = .ok (.laload, 1) := by decide +kernel
theorem dX8_enter_131 : decode cX8_enter 131 = .ok (.ldc2_w 59, 3) := by decide +kernel
theorem dX8_enter_134 : decode cX8_enter 134 = .ok (.land, 1) := by decide +kernel
theorem dX8_enter_135 : decode cX8_enter 135 = .ok (.lload 6, 2) := by decide +kernel
theorem dX8_enter_137 : decode cX8_enter 137 = .ok (.ladd, 1) := by decide +kernel
theorem dX8_enter_138 : decode cX8_enter 138 = .ok (.iload_n 3, 1) := by decide +kernel
theorem dX8_enter_139 : decode cX8_enter 139 = .ok (.i2l, 1) := by decide +kernel
theorem dX8_enter_140 : decode cX8_enter 140 = .ok (.ladd, 1) := by decide +kernel
theorem dX8_enter_141 : decode cX8_enter 141 = .ok (.putfield 41, 3) := by decide +kernel
theorem dX8_enter_144 : decode cX8_enter 144 = .ok (.aload_n 0, 1) := by decide +kernel
theorem dX8_enter_145 : decode cX8_enter 145 = .ok (.dup, 1) := by decide +kernel
theorem dX8_enter_146 : decode cX8_enter 146 = .ok (.getfield 37, 3) := by decide +kernel
theorem dX8_enter_149 : decode cX8_enter 149 = .ok (.iconst 1, 1) := by decide +kernel
theorem dX8_enter_150 : decode cX8_enter 150 = .ok (.iadd, 1) := by decide +kernel
theorem dX8_enter_151 : decode cX8_enter 151 = .ok (.putfield 37, 3) := by decide +kernel
theorem dX8_enter_154 : decode cX8_enter 154 = .ok (.return_, 1) := by decide +kernel
def F_X8_enter_c58 (τ : XS) (a0 : Int64) (a1 : Int32) (w4 : Int64) (s0 : Int64) : XS := (xuT (xuN (xuP (xuP (xuP (xuP (xuP τ (vp_updL (xP τ) (38 : Int32).toNatClampNeg (((j_lshl (xP τ (42 : Int32).toNatClampNeg) (28 : Int32)) ||| (j_lshl (xP τ (45 : Int32).toNatClampNeg) (7 : Int32))) ||| w4))) (vp_updL (xP (xuP τ (vp_updL (xP τ) (38 : Int32).toNatClampNeg (((j_lshl (xP τ (42 : Int32).toNatClampNeg) (28 : Int32)) ||| (j_lshl (xP τ (45 : Int32).toNatClampNeg) (7 : Int32))) ||| w4)))) (37 : Int32).toNatClampNeg a0)) (vp_updL (xP (xuP (xuP τ (vp_updL (xP τ) (38 : Int32).toNatClampNeg (((j_lshl (xP τ (42 : Int32).toNatClampNeg) (28 : Int32)) ||| (j_lshl (xP τ (45 : Int32).toNatClampNeg) (7 : Int32))) ||| w4))) (vp_updL (xP (xuP τ (vp_updL (xP τ) (38 : Int32).toNatClampNeg (((j_lshl (xP τ (42 : Int32).toNatClampNeg) (28 : Int32)) ||| (j_lshl (xP τ (45 : Int32).toNatClampNeg) (7 : Int32))) ||| w4)))) (37 : Int32).toNatClampNeg a0))) (43 : Int32).toNatClampNeg (1 : Int64))) (vp_updL (xP (xuP (xuP (xuP τ (vp_updL (xP τ) (38 : Int32).toNatClampNeg (((j_lshl (xP τ (42 : Int32).toNatClampNeg) (28 : Int32)) ||| (j_lshl (xP τ (45 : Int32).toNatClampNeg) (7 : Int32))) ||| w4))) (vp_updL (xP (xuP τ (vp_updL (xP τ) (38 : Int32).toNatClampNeg (((j_lshl (xP τ (42 : Int32).toNatClampNeg) (28 : Int32)) ||| (j_lshl (xP τ (45 : Int32).toNatClampNeg) (7 : Int32))) ||| w4)))) (37 : Int32).toNatClampNeg a0)) (vp_updL (xP (xuP (xuP τ (vp_updL (xP τ) (38 : Int32).toNatClampNeg (((j_lshl (xP τ (42 : Int32).toNatClampNeg) (28 : Int32)) ||| (j_lshl (xP τ (45 : Int32).toNatClampNeg) (7 : Int32))) ||| w4))) (vp_updL (xP (xuP τ (vp_updL (xP τ) (38 : Int32).toNatClampNeg (((j_lshl (xP τ (42 : Int32).toNatClampNeg) (28 : Int32)) ||| (j_lshl (xP τ (45 : Int32).toNatClampNeg) (7 : Int32))) ||| w4)))) (37 : Int32).toNatClampNeg a0))) (43 : Int32).toNatClampNeg (1 : Int64)))) (44 : Int32).toNatClampNeg (1 : Int64))) (vp_updL (xP (xuP (xuP (xuP (xuP τ (vp_updL (xP τ) (38 : Int32).toNatClampNeg (((j_lshl (xP τ (42 : Int32).toNatClampNeg) (28 : Int32)) ||| (j_lshl (xP τ (45 : Int32).toNatClampNeg) (7 : Int32))) ||| w4))) (vp_updL (xP (xuP τ (vp_updL (xP τ) (38 : Int32).toNatClampNeg (((j_lshl (xP τ (42 : Int32).toNatClampNeg) (28 : Int32)) ||| (j_lshl (xP τ (45 : Int32).toNatClampNeg) (7 : Int32))) ||| w4)))) (37 : Int32).toNatClampNeg a0)) (vp_updL (xP (xuP (xuP τ (vp_updL (xP τ) (38 : Int32).toNatClampNeg (((j_lshl (xP τ (42 : Int32).toNatClampNeg) (28 : Int32)) ||| (j_lshl (xP τ (45 : Int32).toNatClampNeg) (7 : Int32))) ||| w4))) (vp_updL (xP (xuP τ (vp_updL (xP τ) (38 : Int32).toNatClampNeg (((j_lshl (xP τ (42 : Int32).toNatClampNeg) (28 : Int32)) ||| (j_lshl (xP τ (45 : Int32).toNatClampNeg) (7 : Int32))) ||| w4)))) (37 : Int32).toNatClampNeg a0))) (43 : Int32).toNatClampNeg (1 : Int64))) (vp_updL (xP (xuP (xuP (xuP τ (vp_updL (xP τ) (38 : Int32).toNatClampNeg (((j_lshl (xP τ (42 : Int32).toNatClampNeg) (28 : Int32)) ||| (j_lshl (xP τ (45 : Int32).toNatClampNeg) (7 : Int32))) ||| w4))) (vp_updL (xP (xuP τ (vp_updL (xP τ) (38 : Int32).toNatClampNeg (((j_lshl (xP τ (42 : Int32).toNatClampNeg) (28 : Int32)) ||| (j_lshl (xP τ (45 : Int32).toNatClampNeg) (7 : Int32))) ||| w4)))) (37 : Int32).toNatClampNeg a0)) (vp_updL (xP (xuP (xuP τ (vp_updL (xP τ) (38 : Int32).toNatClampNeg (((j_lshl (xP τ (42 : Int32).toNatClampNeg) (28 : Int32)) ||| (j_lshl (xP τ (45 : Int32).toNatClampNeg) (7 : Int32))) ||| w4))) (vp_updL (xP (xuP τ (vp_updL (xP τ) (38 : Int32).toNatClampNeg (((j_lshl (xP τ (42 : Int32).toNatClampNeg) (28 : Int32)) ||| (j_lshl (xP τ (45 : Int32).toNatClampNeg) (7 : Int32))) ||| w4)))) (37 : Int32).toNatClampNeg a0))) (43 : Int32).toNatClampNeg (1 : Int64)))) (44 : Int32).toNatClampNeg (1 : Int64)))) (45 : Int32).toNatClampNeg (1 : Int64))) ((((xP (xuP (xuP (xuP (xuP (xuP τ (vp_updL (xP τ) (38 : Int32).toNatClampNeg (((j_lshl (xP τ (42 : Int32).toNatClampNeg) (28 : Int32)) ||| (j_lshl (xP τ (45 : Int32).toNatClampNeg) (7 : Int32))) ||| w4))) (vp_updL (xP (xuP τ (vp_updL (xP τ) (38 : Int32).toNatClampNeg (((j_lshl (xP τ (42 : Int32).toNatClampNeg) (28 : Int32)) ||| (j_lshl (xP τ (45 : Int32).toNatClampNeg) (7 : Int32))) ||| w4)))) (37 : Int32).toNatClampNeg a0)) (vp_updL (xP (xuP (xuP τ (vp_updL (xP τ) (38 : Int32).toNatClampNeg (((j_lshl (xP τ (42 : Int32).toNatClampNeg) (28 : Int32)) ||| (j_lshl (xP τ (45 : Int32).toNatClampNeg) (7 : Int32))) ||| w4))) (vp_updL (xP (xuP τ (vp_updL (xP τ) (38 : Int32).toNatClampNeg (((j_lshl (xP τ (42 : Int32).toNatClampNeg) (28 : Int32)) ||| (j_lshl (xP τ (45 : Int32).toNatClampNeg) (7 : Int32))) ||| w4)))) (37 : Int32).toNatClampNeg a0))) (43 : Int32).toNatClampNeg (1 : Int64))) (vp_updL (xP (xuP (xuP (xuP τ (vp_updL (xP τ) (38 : Int32).toNatClampNeg (((j_lshl (xP τ (42 : Int32).toNatClampNeg) (28 : Int32)) ||| (j_lshl (xP τ (45 : Int32).toNatClampNeg) (7 : Int32))) ||| w4))) (vp_updL (xP (xuP τ (vp_updL (xP τ) (38 : Int32).toNatClampNeg (((j_lshl (xP τ (42 : Int32).toNatClampNeg) (28 : Int32)) ||| (j_lshl (xP τ (45 : Int32).toNatClampNeg) (7 : Int32))) ||| w4)))) (37 : Int32).toNatClampNeg a0)) (vp_updL (xP (xuP (xuP τ (vp_updL (xP τ) (38 : Int32).toNatClampNeg (((j_lshl (xP τ (42 : Int32).toNatClampNeg) (28 : Int32)) ||| (j_lshl (xP τ (45 : Int32).toNatClampNeg) (7 : Int32))) ||| w4))) (vp_updL (xP (xuP τ (vp_updL (xP τ) (38 : Int32).toNatClampNeg (((j_lshl (xP τ (42 : Int32).toNatClampNeg) (28 : Int32)) ||| (j_lshl (xP τ (45 : Int32).toNatClampNeg) (7 : Int32))) ||| w4)))) (37 : Int32).toNatClampNeg a0))) (43 : Int32).toNatClampNeg (1 : Int64)))) (44 : Int32).toNatClampNeg (1 : Int64))) (vp_updL (xP (xuP (xuP (xuP (xuP τ (vp_updL (xP τ) (38 : Int32).toNatClampNeg (((j_lshl (xP τ (42 : Int32).toNatClampNeg) (28 : Int32)) ||| (j_lshl (xP τ (45 : Int32).toNatClampNeg) (7 : Int32))) ||| w4))) (vp_updL (xP (xuP τ (vp_updL (xP τ) (38 : Int32).toNatClampNeg (((j_lshl (xP τ (42 : Int32).toNatClampNeg) (28 : Int32)) ||| (j_lshl (xP τ (45 : Int32).toNatClampNeg) (7 : Int32))) ||| w4)))) (37 : Int32).toNatClampNeg a0)) (vp_updL (xP (xuP (xuP τ (vp_updL (xP τ) (38 : Int32).toNatClampNeg (((j_lshl (xP τ (42 : Int32).toNatClampNeg) (28 : Int32)) ||| (j_lshl (xP τ (45 : Int32).toNatClampNeg) (7 : Int32))) ||| w4))) (vp_updL (xP (xuP τ (vp_updL (xP τ) (38 : Int32).toNatClampNeg (((j_lshl (xP τ (42 : Int32).toNatClampNeg) (28 : Int32)) ||| (j_lshl (xP τ (45 : Int32).toNatClampNeg) (7 : Int32))) ||| w4)))) (37 : Int32).toNatClampNeg a0))) (43 : Int32).toNatClampNeg (1 : Int64))) (vp_updL (xP (xuP (xuP (xuP τ (vp_updL (xP τ) (38 : Int32).toNatClampNeg (((j_lshl (xP τ (42 : Int32).toNatClampNeg) (28 : Int32)) ||| (j_lshl (xP τ (45 : Int32).toNatClampNeg) (7 : Int32))) ||| w4))) (vp_updL (xP (xuP τ (vp_updL (xP τ) (38 : Int32).toNatClampNeg (((j_lshl (xP τ (42 : Int32).toNatClampNeg) (28 : Int32)) ||| (j_lshl (xP τ (45 : Int32).toNatClampNeg) (7 : Int32))) ||| w4)))) (37 : Int32).toNatClampNeg a0)) (vp_updL (xP (xuP (xuP τ (vp_updL (xP τ) (38 : Int32).toNatClampNeg (((j_lshl (xP τ (42 : Int32).toNatClampNeg) (28 : Int32)) ||| (j_lshl (xP τ (45 : Int32).toNatClampNeg) (7 : Int32))) ||| w4))) (vp_updL (xP (xuP τ (vp_updL (xP τ) (38 : Int32).toNatClampNeg (((j_lshl (xP τ (42 : Int32).toNatClampNeg) (28 : Int32)) ||| (j_lshl (xP τ (45 : Int32).toNatClampNeg) (7 : Int32))) ||| w4)))) (37 : Int32).toNatClampNeg a0))) (43 : Int32).toNatClampNeg (1 : Int64)))) (44 : Int32).toNatClampNeg (1 : Int64)))) (45 : Int32).toNatClampNeg (1 : Int64))) (36 : Int32).toNatClampNeg) &&& (-2048 : Int64)) + s0) + a1.toInt64)) ((xT (xuN (xuP (xuP (xuP (xuP (xuP τ (vp_updL (xP τ) (38 : Int32).toNatClampNeg (((j_lshl (xP τ (42 : Int32).toNatClampNeg) (28 : Int32)) ||| (j_lshl (xP τ (45 : Int32).toNatClampNeg) (7 : Int32))) ||| w4))) (vp_updL (xP (xuP τ (vp_updL (xP τ) (38 : Int32).toNatClampNeg (((j_lshl (xP τ (42 : Int32).toNatClampNeg) (28 : Int32)) ||| (j_lshl (xP τ (45 : Int32).toNatClampNeg) (7 : Int32))) ||| w4)))) (37 : Int32).toNatClampNeg a0)) (vp_updL (xP (xuP (xuP τ (vp_updL (xP τ) (38 : Int32).toNatClampNeg (((j_lshl (xP τ (42 : Int32).toNatClampNeg) (28 : Int32)) ||| (j_lshl (xP τ (45 : Int32).toNatClampNeg) (7 : Int32))) ||| w4))) (vp_updL (xP (xuP τ (vp_updL (xP τ) (38 : Int32).toNatClampNeg (((j_lshl (xP τ (42 : Int32).toNatClampNeg) (28 : Int32)) ||| (j_lshl (xP τ (45 : Int32).toNatClampNeg) (7 : Int32))) ||| w4)))) (37 : Int32).toNatClampNeg a0))) (43 : Int32).toNatClampNeg (1 : Int64))) (vp_updL (xP (xuP (xuP (xuP τ (vp_updL (xP τ) (38 : Int32).toNatClampNeg (((j_lshl (xP τ (42 : Int32).toNatClampNeg) (28 : Int32)) ||| (j_lshl (xP τ (45 : Int32).toNatClampNeg) (7 : Int32))) ||| w4))) (vp_updL (xP (xuP τ (vp_updL (xP τ) (38 : Int32).toNatClampNeg (((j_lshl (xP τ (42 : Int32).toNatClampNeg) (28 : Int32)) ||| (j_lshl (xP τ (45 : Int32).toNatClampNeg) (7 : Int32))) ||| w4)))) (37 : Int32).toNatClampNeg a0)) (vp_updL (xP (xuP (xuP τ (vp_updL (xP τ) (38 : Int32).toNatClampNeg (((j_lshl (xP τ (42 : Int32).toNatClampNeg) (28 : Int32)) ||| (j_lshl (xP τ (45 : Int32).toNatClampNeg) (7 : Int32))) ||| w4))) (vp_updL (xP (xuP τ (vp_updL (xP τ) (38 : Int32).toNatClampNeg (((j_lshl (xP τ (42 : Int32).toNatClampNeg) (28 : Int32)) ||| (j_lshl (xP τ (45 : Int32).toNatClampNeg) (7 : Int32))) ||| w4)))) (37 : Int32).toNatClampNeg a0))) (43 : Int32).toNatClampNeg (1 : Int64)))) (44 : Int32).toNatClampNeg (1 : Int64))) (vp_updL (xP (xuP (xuP (xuP (xuP τ (vp_updL (xP τ) (38 : Int32).toNatClampNeg (((j_lshl (xP τ (42 : Int32).toNatClampNeg) (28 : Int32)) ||| (j_lshl (xP τ (45 : Int32).toNatClampNeg) (7 : Int32))) ||| w4))) (vp_updL (xP (xuP τ (vp_updL (xP τ) (38 : Int32).toNatClampNeg (((j_lshl (xP τ (42 : Int32).toNatClampNeg) (28 : Int32)) ||| (j_lshl (xP τ (45 : Int32).toNatClampNeg) (7 : Int32))) ||| w4)))) (37 : Int32).toNatClampNeg a0)) (vp_updL (xP (xuP (xuP τ (vp_updL (xP τ) (38 : Int32).toNatClampNeg (((j_lshl (xP τ (42 : Int32).toNatClampNeg) (28 : Int32)) ||| (j_lshl (xP τ (45 : Int32).toNatClampNeg) (7 : Int32))) ||| w4))) (vp_updL (xP (xuP τ (vp_updL (xP τ) (38 : Int32).toNatClampNeg (((j_lshl (xP τ (42 : Int32).toNatClampNeg) (28 : Int32)) ||| (j_lshl (xP τ (45 : Int32).toNatClampNeg) (7 : Int32))) ||| w4)))) (37 : Int32).toNatClampNeg a0))) (43 : Int32).toNatClampNeg (1 : Int64))) (vp_updL (xP (xuP (xuP (xuP τ (vp_updL (xP τ) (38 : Int32).toNatClampNeg (((j_lshl (xP τ (42 : Int32).toNatClampNeg) (28 : Int32)) ||| (j_lshl (xP τ (45 : Int32).toNatClampNeg) (7 : Int32))) ||| w4))) (vp_updL (xP (xuP τ (vp_updL (xP τ) (38 : Int32).toNatClampNeg (((j_lshl (xP τ (42 : Int32).toNatClampNeg) (28 : Int32)) ||| (j_lshl (xP τ (45 : Int32).toNatClampNeg) (7 : Int32))) ||| w4)))) (37 : Int32).toNatClampNeg a0)) (vp_updL (xP (xuP (xuP τ (vp_updL (xP τ) (38 : Int32).toNatClampNeg (((j_lshl (xP τ (42 : Int32).toNatClampNeg) (28 : Int32)) ||| (j_lshl (xP τ (45 : Int32).toNatClampNeg) (7 : Int32))) ||| w4))) (vp_updL (xP (xuP τ (vp_updL (xP τ) (38 : Int32).toNatClampNeg (((j_lshl (xP τ (42 : Int32).toNatClampNeg) (28 : Int32)) ||| (j_lshl (xP τ (45 : Int32).toNatClampNeg) (7 : Int32))) ||| w4)))) (37 : Int32).toNatClampNeg a0))) (43 : Int32).toNatClampNeg (1 : Int64)))) (44 : Int32).toNatClampNeg (1 : Int64)))) (45 : Int32).toNatClampNeg (1 : Int64))) ((((xP (xuP (xuP (xuP (xuP (xuP τ (vp_updL (xP τ) (38 : Int32).toNatClampNeg (((j_lshl (xP τ (42 : Int32).toNatClampNeg) (28 : Int32)) ||| (j_lshl (xP τ (45 : Int32).toNatClampNeg) (7 : Int32))) ||| w4))) (vp_updL (xP (xuP τ (vp_updL (xP τ) (38 : Int32).toNatClampNeg (((j_lshl (xP τ (42 : Int32).toNatClampNeg) (28 : Int32)) ||| (j_lshl (xP τ (45 : Int32).toNatClampNeg) (7 : Int32))) ||| w4)))) (37 : Int32).toNatClampNeg a0)) (vp_updL (xP (xuP (xuP τ (vp_updL (xP τ) (38 : Int32).toNatClampNeg (((j_lshl (xP τ (42 : Int32).toNatClampNeg) (28 : Int32)) ||| (j_lshl (xP τ (45 : Int32).toNatClampNeg) (7 : Int32))) ||| w4))) (vp_updL (xP (xuP τ (vp_updL (xP τ) (38 : Int32).toNatClampNeg (((j_lshl (xP τ (42 : Int32).toNatClampNeg) (28 : Int32)) ||| (j_lshl (xP τ (45 : Int32).toNatClampNeg) (7 : Int32))) ||| w4)))) (37 : Int32).toNatClampNeg a0))) (43 : Int32).toNatClampNeg (1 : Int64))) (vp_updL (xP (xuP (xuP (xuP τ (vp_updL (xP τ) (38 : Int32).toNatClampNeg (((j_lshl (xP τ (42 : Int32).toNatClampNeg) (28 : Int32)) ||| (j_lshl (xP τ (45 : Int32).toNatClampNeg) (7 : Int32))) ||| w4))) (vp_updL (xP (xuP τ (vp_updL (xP τ) (38 : Int32).toNatClampNeg (((j_lshl (xP τ (42 : Int32).toNatClampNeg) (28 : Int32)) ||| (j_lshl (xP τ (45 : Int32).toNatClampNeg) (7 : Int32))) ||| w4)))) (37 : Int32).toNatClampNeg a0)) (vp_updL (xP (xuP (xuP τ (vp_updL (xP τ) (38 : Int32).toNatClampNeg (((j_lshl (xP τ (42 : Int32).toNatClampNeg) (28 : Int32)) ||| (j_lshl (xP τ (45 : Int32).toNatClampNeg) (7 : Int32))) ||| w4))) (vp_updL (xP (xuP τ (vp_updL (xP τ) (38 : Int32).toNatClampNeg (((j_lshl (xP τ (42 : Int32).toNatClampNeg) (28 : Int32)) ||| (j_lshl (xP τ (45 : Int32).toNatClampNeg) (7 : Int32))) ||| w4)))) (37 : Int32).toNatClampNeg a0))) (43 : Int32).toNatClampNeg (1 : Int64)))) (44 : Int32).toNatClampNeg (1 : Int64))) (vp_updL (xP (xuP (xuP (xuP (xuP τ (vp_updL (xP τ) (38 : Int32).toNatClampNeg (((j_lshl (xP τ (42 : Int32).toNatClampNeg) (28 : Int32)) ||| (j_lshl (xP τ (45 : Int32).toNatClampNeg) (7 : Int32))) ||| w4))) (vp_updL (xP (xuP τ (vp_updL (xP τ) (38 : Int32).toNatClampNeg (((j_lshl (xP τ (42 : Int32).toNatClampNeg) (28 : Int32)) ||| (j_lshl (xP τ (45 : Int32).toNatClampNeg) (7 : Int32))) ||| w4)))) (37 : Int32).toNatClampNeg a0)) (vp_updL (xP (xuP (xuP τ (vp_updL (xP τ) (38 : Int32).toNatClampNeg (((j_lshl (xP τ (42 : Int32).toNatClampNeg) (28 : Int32)) ||| (j_lshl (xP τ (45 : Int32).toNatClampNeg) (7 : Int32))) ||| w4))) (vp_updL (xP (xuP τ (vp_updL (xP τ) (38 : Int32).toNatClampNeg (((j_lshl (xP τ (42 : Int32).toNatClampNeg) (28 : Int32)) ||| (j_lshl (xP τ (45 : Int32).toNatClampNeg) (7 : Int32))) ||| w4)))) (37 : Int32).toNatClampNeg a0))) (43 : Int32).toNatClampNeg (1 : Int64))) (vp_updL (xP (xuP (xuP (xuP τ (vp_updL (xP τ) (38 : Int32).toNatClampNeg (((j_lshl (xP τ (42 : Int32).toNatClampNeg) (28 : Int32)) ||| (j_lshl (xP τ (45 : Int32).toNatClampNeg) (7 : Int32))) ||| w4))) (vp_updL (xP (xuP τ (vp_updL (xP τ) (38 : Int32).toNatClampNeg (((j_lshl (xP τ (42 : Int32).toNatClampNeg) (28 : Int32)) ||| (j_lshl (xP τ (45 : Int32).toNatClampNeg) (7 : Int32))) ||| w4)))) (37 : Int32).toNatClampNeg a0)) (vp_updL (xP (xuP (xuP τ (vp_updL (xP τ) (38 : Int32).toNatClampNeg (((j_lshl (xP τ (42 : Int32).toNatClampNeg) (28 : Int32)) ||| (j_lshl (xP τ (45 : Int32).toNatClampNeg) (7 : Int32))) ||| w4))) (vp_updL (xP (xuP τ (vp_updL (xP τ) (38 : Int32).toNatClampNeg (((j_lshl (xP τ (42 : Int32).toNatClampNeg) (28 : Int32)) ||| (j_lshl (xP τ (45 : Int32).toNatClampNeg) (7 : Int32))) ||| w4)))) (37 : Int32).toNatClampNeg a0))) (43 : Int32).toNatClampNeg (1 : Int64)))) (44 : Int32).toNatClampNeg (1 : Int64)))) (45 : Int32).toNatClampNeg (1 : Int64))) (36 : Int32).toNatClampNeg) &&& (-2048 : Int64)) + s0) + a1.toInt64))) + (1 : Int32)))
def F_X8_enter_c27 (τ : XS) (a0 : Int64) (a1 : Int32) (s0 : Int64) : XS := (if (xP τ (43 : Int32).toNatClampNeg) = (0 : Int64) then (F_X8_enter_c58 τ a0 a1 s0 (1024 : Int64)) else (F_X8_enter_c58 τ a0 a1 s0 ((512 : Int64) * (xP τ (44 : Int32).toNatClampNeg))))
def F_X8_enter (σ : XS) (a0 : Int64) (a1 : Int32) : XS := (if (xP σ (43 : Int32).toNatClampNeg) = (0 : Int64) then (F_X8_enter_c27 σ a0 a1 (0 : Int64)) else (F_X8_enter_c27 σ a0 a1 ((4 : Int64) + (xP σ (44 : Int32).toNatClampNeg))))
set_option maxHeartbeats 4000000 in
set_option maxRecDepth 100000 in
theorem c_X8_enter (l : Launch) (z : Cx) (r : Nat → Nat) (σ : XS) (a0 : Int64) (a1 : Int32) (sz : Nat) (res : XS) (hf : F_X8_enter σ a0 a1 = res) : Met l yX8_enter (wsC yX8_enter cX8_enter 8 none) { frames := 0, cells := 0, slots := 0, locals := 0 } (mPc z (xW z r σ) sz [.ref (r 3), .long a0, .int a1]) (gM z (va_A (xW z r σ) sz) none (xW z r res)) 0 0 (va_A (xW z r σ) sz) := by
  refine mk_m_v (own := RX8) (wf := xW z r) (by decide) rfl sz _ (Nat.le_of_ble_eq_true rfl) (fun p e s m below meth c A H locs Q ls S hK hA hP hD hS hl hend => ?_)
  have hx := S.1
  have hb := S.2.1
  have hown := S.2.2.2.1
  have hts := S.2.2.2.2
  have hl : lv_has ls 8 [(0, .ref (r 3)), (1, .long a0), (3, .int a1)] := hl
  have J_c58 : ∀ (τ : XS) (w4 : Int64) (s0 : Int64) (H : Heap) (locs : List Loc) (ls : Array Slot), F_X8_enter_c58 τ a0 a1 w4 s0 = res → va_P z.1 vwCl (xW z r τ) H → va_D A (xW z r τ) → va_S A s.heap H locs → lv_has ls 8 [(0, .ref (r 3)), (1, .long a0), (3, .int a1), (4, .long w4)] → W p l e { frames := 0, cells := 0, slots := 0, locals := 0 } s m ([.ref (r 3), .long a0, .int a1] : List Value).toArray below meth c H locs 0 0 Q (F0 m 58 ls [.long s0]) := by
    intro τ w4 s0 H locs ls hf hP hD hS hl
    unfold F_X8_enter_c58 at hf
    refine lv_lstore (lv' := [(6, .long s0), (0, .ref (r 3)), (1, .long a0), (3, .int a1), (4, .long w4)]) hx hb dX8_enter_58 hl (by decide) rfl (fun ls hl => ?_)
    refine lv_aload_n hx hb dX8_enter_60 rfl (lv_at hl 1 rfl) ?_
    refine fg_X8_parts S hK hP tf_X8_9 dX8_enter_61 ?_
    refine lv_bipush (v := 38) hx hb dX8_enter_64 (by decide) ?_
    refine lv_aload_n hx hb dX8_enter_66 rfl (lv_at hl 1 rfl) ?_
    refine fg_X8_parts S hK hP tf_X8_9 dX8_enter_67 ?_
    refine lv_bipush (v := 42) hx hb dX8_enter_70 (by decide) ?_
    refine al_xP S hK hP (show vp_in (42 : Int32) 46 by unfold vp_in; decide) dX8_enter_72 ?_
    refine lv_bipush (v := 28) hx hb dX8_enter_73 (by decide) ?_
    refine lv_lshl (v := (j_lshl (xP τ (42 : Int32).toNatClampNeg) (28 : Int32))) hx hb dX8_enter_75 rfl ?_
    refine lv_aload_n hx hb dX8_enter_76 rfl (lv_at hl 1 rfl) ?_
    refine fg_X8_parts S hK hP tf_X8_9 dX8_enter_77 ?_
    refine lv_bipush (v := 45) hx hb dX8_enter_80 (by decide) ?_
    refine al_xP S hK hP (show vp_in (45 : Int32) 46 by unfold vp_in; decide) dX8_enter_82 ?_
    refine lv_bipush (v := 7) hx hb dX8_enter_83 (by decide) ?_
    refine lv_lshl (v := (j_lshl (xP τ (45 : Int32).toNatClampNeg) (7 : Int32))) hx hb dX8_enter_85 rfl ?_
    refine lv_lor hx hb dX8_enter_86 ?_
    refine lv_lload hx hb dX8_enter_87 (lv_at hl 4 rfl) ?_
    refine lv_lor hx hb dX8_enter_89 ?_
    refine ar_xP (x := (((j_lshl (xP τ (42 : Int32).toNatClampNeg) (28 : Int32)) ||| (j_lshl (xP τ (45 : Int32).toNatClampNeg) (7 : Int32))) ||| w4)) S hK hP hD hS (show vp_in (38 : Int32) 46 by unfold vp_in; decide) dX8_enter_90 (fun H locs hP hD hS => ?_)
    refine lv_aload_n hx hb dX8_enter_91 rfl (lv_at hl 1 rfl) ?_
    refine fg_X8_parts S hK hP tf_X8_9 dX8_enter_92 ?_
    refine lv_bipush (v := 37) hx hb dX8_enter_95 (by decide) ?_
    refine lv_lload_n hx hb dX8_enter_97 rfl (lv_at hl 2 rfl) ?_
    refine ar_xP (x := a0) S hK hP hD hS (show vp_in (37 : Int32) 46 by unfold vp_in; decide) dX8_enter_98 (fun H locs hP hD hS => ?_)
    refine lv_aload_n hx hb dX8_enter_99 rfl (lv_at hl 1 rfl) ?_
    refine fg_X8_parts S hK hP tf_X8_9 dX8_enter_100 ?_
    refine lv_bipush (v := 43) hx hb dX8_enter_103 (by decide) ?_
    refine lv_lconst (v := 1) hx hb dX8_enter_105 (by decide) ?_
    refine ar_xP (x := (1 : Int64)) S hK hP hD hS (show vp_in (43 : Int32) 46 by unfold vp_in; decide) dX8_enter_106 (fun H locs hP hD hS => ?_)
    refine lv_aload_n hx hb dX8_enter_107 rfl (lv_at hl 1 rfl) ?_
    refine fg_X8_parts S hK hP tf_X8_9 dX8_enter_108 ?_
    refine lv_bipush (v := 44) hx hb dX8_enter_111 (by decide) ?_
    refine lv_lconst (v := 1) hx hb dX8_enter_113 (by decide) ?_
    refine ar_xP (x := (1 : Int64)) S hK hP hD hS (show vp_in (44 : Int32) 46 by unfold vp_in; decide) dX8_enter_114 (fun H locs hP hD hS => ?_)
    refine lv_aload_n hx hb dX8_enter_115 rfl (lv_at hl 1 rfl) ?_
    refine fg_X8_parts S hK hP tf_X8_9 dX8_enter_116 ?_
    refine lv_bipush (v := 45) hx hb dX8_enter_119 (by decide) ?_
    refine lv_lconst (v := 1) hx hb dX8_enter_121 (by decide) ?_
    refine ar_xP (x := (1 : Int64)) S hK hP hD hS (show vp_in (45 : Int32) 46 by unfold vp_in; decide) dX8_enter_122 (fun H locs hP hD hS => ?_)
    refine lv_aload_n hx hb dX8_enter_123 rfl (lv_at hl 1 rfl) ?_
    refine lv_aload_n hx hb dX8_enter_124 rfl (lv_at hl 1 rfl) ?_
    refine fg_X8_parts S hK hP tf_X8_9 dX8_enter_125 ?_
    refine lv_bipush (v := 36) hx hb dX8_enter_128 (by decide) ?_
    refine al_xP S hK hP (show vp_in (36 : Int32) 46 by unfold vp_in; decide) dX8_enter_130 ?_
    refine lv_ldc2 (v := -2048) hx hb hown (hts _ tk_X8_59) dX8_enter_131 ?_
    refine lv_land hx hb dX8_enter_134 ?_
    refine lv_lload hx hb dX8_enter_135 (lv_at hl 0 rfl) ?_
    refine lv_ladd hx hb dX8_enter_137 ?_
    refine lv_iload_n hx hb dX8_enter_138 rfl (lv_at hl 3 rfl) ?_
    refine lv_i2l hx hb dX8_enter_139 rfl ?_
    refine lv_ladd hx hb dX8_enter_140 ?_
    refine fp_X8_next (v := ((((xP (xuP (xuP (xuP (xuP (xuP τ (vp_updL (xP τ) (38 : Int32).toNatClampNeg (((j_lshl (xP τ (42 : Int32).toNatClampNeg) (28 : Int32)) ||| (j_lshl (xP τ (45 : Int32).toNatClampNeg) (7 : Int32))) ||| w4))) (vp_updL (xP (xuP τ (vp_updL (xP τ) (38 : Int32).toNatClampNeg (((j_lshl (xP τ (42 : Int32).toNatClampNeg) (28 : Int32)) ||| (j_lshl (xP τ (45 : Int32).toNatClampNeg) (7 : Int32))) ||| w4)))) (37 : Int32).toNatClampNeg a0)) (vp_updL (xP (xuP (xuP τ (vp_updL (xP τ) (38 : Int32).toNatClampNeg (((j_lshl (xP τ (42 : Int32).toNatClampNeg) (28 : Int32)) ||| (j_lshl (xP τ (45 : Int32).toNatClampNeg) (7 : Int32))) ||| w4))) (vp_updL (xP (xuP τ (vp_updL (xP τ) (38 : Int32).toNatClampNeg (((j_lshl (xP τ (42 : Int32).toNatClampNeg) (28 : Int32)) ||| (j_lshl (xP τ (45 : Int32).toNatClampNeg) (7 : Int32))) ||| w4)))) (37 : Int32).toNatClampNeg a0))) (43 : Int32).toNatClampNeg (1 : Int64))) (vp_updL (xP (xuP (xuP (xuP τ (vp_updL (xP τ) (38 : Int32).toNatClampNeg (((j_lshl (xP τ (42 : Int32).toNatClampNeg) (28 : Int32)) ||| (j_lshl (xP τ (45 : Int32).toNatClampNeg) (7 : Int32))) ||| w4))) (vp_updL (xP (xuP τ (vp_updL (xP τ) (38 : Int32).toNatClampNeg (((j_lshl (xP τ (42 : Int32).toNatClampNeg) (28 : Int32)) ||| (j_lshl (xP τ (45 : Int32).toNatClampNeg) (7 : Int32))) ||| w4)))) (37 : Int32).toNatClampNeg a0)) (vp_updL (xP (xuP (xuP τ (vp_updL (xP τ) (38 : Int32).toNatClampNeg (((j_lshl (xP τ (42 : Int32).toNatClampNeg) (28 : Int32)) ||| (j_lshl (xP τ (45 : Int32).toNatClampNeg) (7 : Int32))) ||| w4))) (vp_updL (xP (xuP τ (vp_updL (xP τ) (38 : Int32).toNatClampNeg (((j_lshl (xP τ (42 : Int32).toNatClampNeg) (28 : Int32)) ||| (j_lshl (xP τ (45 : Int32).toNatClampNeg) (7 : Int32))) ||| w4)))) (37 : Int32).toNatClampNeg a0))) (43 : Int32).toNatClampNeg (1 : Int64)))) (44 : Int32).toNatClampNeg (1 : Int64))) (vp_updL (xP (xuP (xuP (xuP (xuP τ (vp_updL (xP τ) (38 : Int32).toNatClampNeg (((j_lshl (xP τ (42 : Int32).toNatClampNeg) (28 : Int32)) ||| (j_lshl (xP τ (45 : Int32).toNatClampNeg) (7 : Int32))) ||| w4))) (vp_updL (xP (xuP τ (vp_updL (xP τ) (38 : Int32).toNatClampNeg (((j_lshl (xP τ (42 : Int32).toNatClampNeg) (28 : Int32)) ||| (j_lshl (xP τ (45 : Int32).toNatClampNeg) (7 : Int32))) ||| w4)))) (37 : Int32).toNatClampNeg a0)) (vp_updL (xP (xuP (xuP τ (vp_updL (xP τ) (38 : Int32).toNatClampNeg (((j_lshl (xP τ (42 : Int32).toNatClampNeg) (28 : Int32)) ||| (j_lshl (xP τ (45 : Int32).toNatClampNeg) (7 : Int32))) ||| w4))) (vp_updL (xP (xuP τ (vp_updL (xP τ) (38 : Int32).toNatClampNeg (((j_lshl (xP τ (42 : Int32).toNatClampNeg) (28 : Int32)) ||| (j_lshl (xP τ (45 : Int32).toNatClampNeg) (7 : Int32))) ||| w4)))) (37 : Int32).toNatClampNeg a0))) (43 : Int32).toNatClampNeg (1 : Int64))) (vp_updL (xP (xuP (xuP (xuP τ (vp_updL (xP τ) (38 : Int32).toNatClampNeg (((j_lshl (xP τ (42 : Int32).toNatClampNeg) (28 : Int32)) ||| (j_lshl (xP τ (45 : Int32).toNatClampNeg) (7 : Int32))) ||| w4))) (vp_updL (xP (xuP τ (vp_updL (xP τ) (38 : Int32).toNatClampNeg (((j_lshl (xP τ (42 : Int32).toNatClampNeg) (28 : Int32)) ||| (j_lshl (xP τ (45 : Int32).toNatClampNeg) (7 : Int32))) ||| w4)))) (37 : Int32).toNatClampNeg a0)) (vp_updL (xP (xuP (xuP τ (vp_updL (xP τ) (38 : Int32).toNatClampNeg (((j_lshl (xP τ (42 : Int32).toNatClampNeg) (28 : Int32)) ||| (j_lshl (xP τ (45 : Int32).toNatClampNeg) (7 : Int32))) ||| w4))) (vp_updL (xP (xuP τ (vp_updL (xP τ) (38 : Int32).toNatClampNeg (((j_lshl (xP τ (42 : Int32).toNatClampNeg) (28 : Int32)) ||| (j_lshl (xP τ (45 : Int32).toNatClampNeg) (7 : Int32))) ||| w4)))) (37 : Int32).toNatClampNeg a0))) (43 : Int32).toNatClampNeg (1 : Int64)))) (44 : Int32).toNatClampNeg (1 : Int64)))) (45 : Int32).toNatClampNeg (1 : Int64))) (36 : Int32).toNatClampNeg) &&& (-2048 : Int64)) + s0) + a1.toInt64)) S hK hP hD hS tf_X8_41 dX8_enter_141 (fun H locs hP hD hS => ?_)
    refine lv_aload_n hx hb dX8_enter_144 rfl (lv_at hl 1 rfl) ?_
    refine lv_dup hx hb dX8_enter_145 rfl ?_
    refine fg_X8_taken S hK hP tf_X8_37 dX8_enter_146 ?_
    refine lv_iconst (v := 1) hx hb dX8_enter_149 (by decide) ?_
    refine lv_iadd hx hb dX8_enter_150 ?_
    refine fp_X8_taken (v := ((xT (xuN (xuP (xuP (xuP (xuP (xuP τ (vp_updL (xP τ) (38 : Int32).toNatClampNeg (((j_lshl (xP τ (42 : Int32).toNatClampNeg) (28 : Int32)) ||| (j_lshl (xP τ (45 : Int32).toNatClampNeg) (7 : Int32))) ||| w4))) (vp_updL (xP (xuP τ (vp_updL (xP τ) (38 : Int32).toNatClampNeg (((j_lshl (xP τ (42 : Int32).toNatClampNeg) (28 : Int32)) ||| (j_lshl (xP τ (45 : Int32).toNatClampNeg) (7 : Int32))) ||| w4)))) (37 : Int32).toNatClampNeg a0)) (vp_updL (xP (xuP (xuP τ (vp_updL (xP τ) (38 : Int32).toNatClampNeg (((j_lshl (xP τ (42 : Int32).toNatClampNeg) (28 : Int32)) ||| (j_lshl (xP τ (45 : Int32).toNatClampNeg) (7 : Int32))) ||| w4))) (vp_updL (xP (xuP τ (vp_updL (xP τ) (38 : Int32).toNatClampNeg (((j_lshl (xP τ (42 : Int32).toNatClampNeg) (28 : Int32)) ||| (j_lshl (xP τ (45 : Int32).toNatClampNeg) (7 : Int32))) ||| w4)))) (37 : Int32).toNatClampNeg a0))) (43 : Int32).toNatClampNeg (1 : Int64))) (vp_updL (xP (xuP (xuP (xuP τ (vp_updL (xP τ) (38 : Int32).toNatClampNeg (((j_lshl (xP τ (42 : Int32).toNatClampNeg) (28 : Int32)) ||| (j_lshl (xP τ (45 : Int32).toNatClampNeg) (7 : Int32))) ||| w4))) (vp_updL (xP (xuP τ (vp_updL (xP τ) (38 : Int32).toNatClampNeg (((j_lshl (xP τ (42 : Int32).toNatClampNeg) (28 : Int32)) ||| (j_lshl (xP τ (45 : Int32).toNatClampNeg) (7 : Int32))) ||| w4)))) (37 : Int32).toNatClampNeg a0)) (vp_updL (xP (xuP (xuP τ (vp_updL (xP τ) (38 : Int32).toNatClampNeg (((j_lshl (xP τ (42 : Int32).toNatClampNeg) (28 : Int32)) ||| (j_lshl (xP τ (45 : Int32).toNatClampNeg) (7 : Int32))) ||| w4))) (vp_updL (xP (xuP τ (vp_updL (xP τ) (38 : Int32).toNatClampNeg (((j_lshl (xP τ (42 : Int32).toNatClampNeg) (28 : Int32)) ||| (j_lshl (xP τ (45 : Int32).toNatClampNeg) (7 : Int32))) ||| w4)))) (37 : Int32).toNatClampNeg a0))) (43 : Int32).toNatClampNeg (1 : Int64)))) (44 : Int32).toNatClampNeg (1 : Int64))) (vp_updL (xP (xuP (xuP (xuP (xuP τ (vp_updL (xP τ) (38 : Int32).toNatClampNeg (((j_lshl (xP τ (42 : Int32).toNatClampNeg) (28 : Int32)) ||| (j_lshl (xP τ (45 : Int32).toNatClampNeg) (7 : Int32))) ||| w4))) (vp_updL (xP (xuP τ (vp_updL (xP τ) (38 : Int32).toNatClampNeg (((j_lshl (xP τ (42 : Int32).toNatClampNeg) (28 : Int32)) ||| (j_lshl (xP τ (45 : Int32).toNatClampNeg) (7 : Int32))) ||| w4)))) (37 : Int32).toNatClampNeg a0)) (vp_updL (xP (xuP (xuP τ (vp_updL (xP τ) (38 : Int32).toNatClampNeg (((j_lshl (xP τ (42 : Int32).toNatClampNeg) (28 : Int32)) ||| (j_lshl (xP τ (45 : Int32).toNatClampNeg) (7 : Int32))) ||| w4))) (vp_updL (xP (xuP τ (vp_updL (xP τ) (38 : Int32).toNatClampNeg (((j_lshl (xP τ (42 : Int32).toNatClampNeg) (28 : Int32)) ||| (j_lshl (xP τ (45 : Int32).toNatClampNeg) (7 : Int32))) ||| w4)))) (37 : Int32).toNatClampNeg a0))) (43 : Int32).toNatClampNeg (1 : Int64))) (vp_updL (xP (xuP (xuP (xuP τ (vp_updL (xP τ) (38 : Int32).toNatClampNeg (((j_lshl (xP τ (42 : Int32).toNatClampNeg) (28 : Int32)) ||| (j_lshl (xP τ (45 : Int32).toNatClampNeg) (7 : Int32))) ||| w4))) (vp_updL (xP (xuP τ (vp_updL (xP τ) (38 : Int32).toNatClampNeg (((j_lshl (xP τ (42 : Int32).toNatClampNeg) (28 : Int32)) ||| (j_lshl (xP τ (45 : Int32).toNatClampNeg) (7 : Int32))) ||| w4)))) (37 : Int32).toNatClampNeg a0)) (vp_updL (xP (xuP (xuP τ (vp_updL (xP τ) (38 : Int32).toNatClampNeg (((j_lshl (xP τ (42 : Int32).toNatClampNeg) (28 : Int32)) ||| (j_lshl (xP τ (45 : Int32).toNatClampNeg) (7 : Int32))) ||| w4))) (vp_updL (xP (xuP τ (vp_updL (xP τ) (38 : Int32).toNatClampNeg (((j_lshl (xP τ (42 : Int32).toNatClampNeg) (28 : Int32)) ||| (j_lshl (xP τ (45 : Int32).toNatClampNeg) (7 : Int32))) ||| w4)))) (37 : Int32).toNatClampNeg a0))) (43 : Int32).toNatClampNeg (1 : Int64)))) (44 : Int32).toNatClampNeg (1 : Int64)))) (45 : Int32).toNatClampNeg (1 : Int64))) ((((xP (xuP (xuP (xuP (xuP (xuP τ (vp_updL (xP τ) (38 : Int32).toNatClampNeg (((j_lshl (xP τ (42 : Int32).toNatClampNeg) (28 : Int32)) ||| (j_lshl (xP τ (45 : Int32).toNatClampNeg) (7 : Int32))) ||| w4))) (vp_updL (xP (xuP τ (vp_updL (xP τ) (38 : Int32).toNatClampNeg (((j_lshl (xP τ (42 : Int32).toNatClampNeg) (28 : Int32)) ||| (j_lshl (xP τ (45 : Int32).toNatClampNeg) (7 : Int32))) ||| w4)))) (37 : Int32).toNatClampNeg a0)) (vp_updL (xP (xuP (xuP τ (vp_updL (xP τ) (38 : Int32).toNatClampNeg (((j_lshl (xP τ (42 : Int32).toNatClampNeg) (28 : Int32)) ||| (j_lshl (xP τ (45 : Int32).toNatClampNeg) (7 : Int32))) ||| w4))) (vp_updL (xP (xuP τ (vp_updL (xP τ) (38 : Int32).toNatClampNeg (((j_lshl (xP τ (42 : Int32).toNatClampNeg) (28 : Int32)) ||| (j_lshl (xP τ (45 : Int32).toNatClampNeg) (7 : Int32))) ||| w4)))) (37 : Int32).toNatClampNeg a0))) (43 : Int32).toNatClampNeg (1 : Int64))) (vp_updL (xP (xuP (xuP (xuP τ (vp_updL (xP τ) (38 : Int32).toNatClampNeg (((j_lshl (xP τ (42 : Int32).toNatClampNeg) (28 : Int32)) ||| (j_lshl (xP τ (45 : Int32).toNatClampNeg) (7 : Int32))) ||| w4))) (vp_updL (xP (xuP τ (vp_updL (xP τ) (38 : Int32).toNatClampNeg (((j_lshl (xP τ (42 : Int32).toNatClampNeg) (28 : Int32)) ||| (j_lshl (xP τ (45 : Int32).toNatClampNeg) (7 : Int32))) ||| w4)))) (37 : Int32).toNatClampNeg a0)) (vp_updL (xP (xuP (xuP τ (vp_updL (xP τ) (38 : Int32).toNatClampNeg (((j_lshl (xP τ (42 : Int32).toNatClampNeg) (28 : Int32)) ||| (j_lshl (xP τ (45 : Int32).toNatClampNeg) (7 : Int32))) ||| w4))) (vp_updL (xP (xuP τ (vp_updL (xP τ) (38 : Int32).toNatClampNeg (((j_lshl (xP τ (42 : Int32).toNatClampNeg) (28 : Int32)) ||| (j_lshl (xP τ (45 : Int32).toNatClampNeg) (7 : Int32))) ||| w4)))) (37 : Int32).toNatClampNeg a0))) (43 : Int32).toNatClampNeg (1 : Int64)))) (44 : Int32).toNatClampNeg (1 : Int64))) (vp_updL (xP (xuP (xuP (xuP (xuP τ (vp_updL (xP τ) (38 : Int32).toNatClampNeg (((j_lshl (xP τ (42 : Int32).toNatClampNeg) (28 : Int32)) ||| (j_lshl (xP τ (45 : Int32).toNatClampNeg) (7 : Int32))) ||| w4))) (vp_updL (xP (xuP τ (vp_updL (xP τ) (38 : Int32).toNatClampNeg (((j_lshl (xP τ (42 : Int32).toNatClampNeg) (28 : Int32)) ||| (j_lshl (xP τ (45 : Int32).toNatClampNeg) (7 : Int32))) ||| w4)))) (37 : Int32).toNatClampNeg a0)) (vp_updL (xP (xuP (xuP τ (vp_updL (xP τ) (38 : Int32).toNatClampNeg (((j_lshl (xP τ (42 : Int32).toNatClampNeg) (28 : Int32)) ||| (j_lshl (xP τ (45 : Int32).toNatClampNeg) (7 : Int32))) ||| w4))) (vp_updL (xP (xuP τ (vp_updL (xP τ) (38 : Int32).toNatClampNeg (((j_lshl (xP τ (42 : Int32).toNatClampNeg) (28 : Int32)) ||| (j_lshl (xP τ (45 : Int32).toNatClampNeg) (7 : Int32))) ||| w4)))) (37 : Int32).toNatClampNeg a0))) (43 : Int32).toNatClampNeg (1 : Int64))) (vp_updL (xP (xuP (xuP (xuP τ (vp_updL (xP τ) (38 : Int32).toNatClampNeg (((j_lshl (xP τ (42 : Int32).toNatClampNeg) (28 : Int32)) ||| (j_lshl (xP τ (45 : Int32).toNatClampNeg) (7 : Int32))) ||| w4))) (vp_updL (xP (xuP τ (vp_updL (xP τ) (38 : Int32).toNatClampNeg (((j_lshl (xP τ (42 : Int32).toNatClampNeg) (28 : Int32)) ||| (j_lshl (xP τ (45 : Int32).toNatClampNeg) (7 : Int32))) ||| w4)))) (37 : Int32).toNatClampNeg a0)) (vp_updL (xP (xuP (xuP τ (vp_updL (xP τ) (38 : Int32).toNatClampNeg (((j_lshl (xP τ (42 : Int32).toNatClampNeg) (28 : Int32)) ||| (j_lshl (xP τ (45 : Int32).toNatClampNeg) (7 : Int32))) ||| w4))) (vp_updL (xP (xuP τ (vp_updL (xP τ) (38 : Int32).toNatClampNeg (((j_lshl (xP τ (42 : Int32).toNatClampNeg) (28 : Int32)) ||| (j_lshl (xP τ (45 : Int32).toNatClampNeg) (7 : Int32))) ||| w4)))) (37 : Int32).toNatClampNeg a0))) (43 : Int32).toNatClampNeg (1 : Int64)))) (44 : Int32).toNatClampNeg (1 : Int64)))) (45 : Int32).toNatClampNeg (1 : Int64))) (36 : Int32).toNatClampNeg) &&& (-2048 : Int64)) + s0) + a1.toInt64))) + (1 : Int32))) S hK hP hD hS tf_X8_37 dX8_enter_151 (fun H locs hP hD hS => ?_)
    exact hend (xuT (xuN (xuP (xuP (xuP (xuP (xuP τ (vp_updL (xP τ) (38 : Int32).toNatClampNeg (((j_lshl (xP τ (42 : Int32).toNatClampNeg) (28 : Int32)) ||| (j_lshl (xP τ (45 : Int32).toNatClampNeg) (7 : Int32))) ||| w4))) (vp_updL (xP (xuP τ (vp_updL (xP τ) (38 : Int32).toNatClampNeg (((j_lshl (xP τ (42 : Int32).toNatClampNeg) (28 : Int32)) ||| (j_lshl (xP τ (45 : Int32).toNatClampNeg) (7 : Int32))) ||| w4)))) (37 : Int32).toNatClampNeg a0)) (vp_updL (xP (xuP (xuP τ (vp_updL (xP τ) (38 : Int32).toNatClampNeg (((j_lshl (xP τ (42 : Int32).toNatClampNeg) (28 : Int32)) ||| (j_lshl (xP τ (45 : Int32).toNatClampNeg) (7 : Int32))) ||| w4))) (vp_updL (xP (xuP τ (vp_updL (xP τ) (38 : Int32).toNatClampNeg (((j_lshl (xP τ (42 : Int32).toNatClampNeg) (28 : Int32)) ||| (j_lshl (xP τ (45 : Int32).toNatClampNeg) (7 : Int32))) ||| w4)))) (37 : Int32).toNatClampNeg a0))) (43 : Int32).toNatClampNeg (1 : Int64))) (vp_updL (xP (xuP (xuP (xuP τ (vp_updL (xP τ) (38 : Int32).toNatClampNeg (((j_lshl (xP τ (42 : Int32).toNatClampNeg) (28 : Int32)) ||| (j_lshl (xP τ (45 : Int32).toNatClampNeg) (7 : Int32))) ||| w4))) (vp_updL (xP (xuP τ (vp_updL (xP τ) (38 : Int32).toNatClampNeg (((j_lshl (xP τ (42 : Int32).toNatClampNeg) (28 : Int32)) ||| (j_lshl (xP τ (45 : Int32).toNatClampNeg) (7 : Int32))) ||| w4)))) (37 : Int32).toNatClampNeg a0)) (vp_updL (xP (xuP (xuP τ (vp_updL (xP τ) (38 : Int32).toNatClampNeg (((j_lshl (xP τ (42 : Int32).toNatClampNeg) (28 : Int32)) ||| (j_lshl (xP τ (45 : Int32).toNatClampNeg) (7 : Int32))) ||| w4))) (vp_updL (xP (xuP τ (vp_updL (xP τ) (38 : Int32).toNatClampNeg (((j_lshl (xP τ (42 : Int32).toNatClampNeg) (28 : Int32)) ||| (j_lshl (xP τ (45 : Int32).toNatClampNeg) (7 : Int32))) ||| w4)))) (37 : Int32).toNatClampNeg a0))) (43 : Int32).toNatClampNeg (1 : Int64)))) (44 : Int32).toNatClampNeg (1 : Int64))) (vp_updL (xP (xuP (xuP (xuP (xuP τ (vp_updL (xP τ) (38 : Int32).toNatClampNeg (((j_lshl (xP τ (42 : Int32).toNatClampNeg) (28 : Int32)) ||| (j_lshl (xP τ (45 : Int32).toNatClampNeg) (7 : Int32))) ||| w4))) (vp_updL (xP (xuP τ (vp_updL (xP τ) (38 : Int32).toNatClampNeg (((j_lshl (xP τ (42 : Int32).toNatClampNeg) (28 : Int32)) ||| (j_lshl (xP τ (45 : Int32).toNatClampNeg) (7 : Int32))) ||| w4)))) (37 : Int32).toNatClampNeg a0)) (vp_updL (xP (xuP (xuP τ (vp_updL (xP τ) (38 : Int32).toNatClampNeg (((j_lshl (xP τ (42 : Int32).toNatClampNeg) (28 : Int32)) ||| (j_lshl (xP τ (45 : Int32).toNatClampNeg) (7 : Int32))) ||| w4))) (vp_updL (xP (xuP τ (vp_updL (xP τ) (38 : Int32).toNatClampNeg (((j_lshl (xP τ (42 : Int32).toNatClampNeg) (28 : Int32)) ||| (j_lshl (xP τ (45 : Int32).toNatClampNeg) (7 : Int32))) ||| w4)))) (37 : Int32).toNatClampNeg a0))) (43 : Int32).toNatClampNeg (1 : Int64))) (vp_updL (xP (xuP (xuP (xuP τ (vp_updL (xP τ) (38 : Int32).toNatClampNeg (((j_lshl (xP τ (42 : Int32).toNatClampNeg) (28 : Int32)) ||| (j_lshl (xP τ (45 : Int32).toNatClampNeg) (7 : Int32))) ||| w4))) (vp_updL (xP (xuP τ (vp_updL (xP τ) (38 : Int32).toNatClampNeg (((j_lshl (xP τ (42 : Int32).toNatClampNeg) (28 : Int32)) ||| (j_lshl (xP τ (45 : Int32).toNatClampNeg) (7 : Int32))) ||| w4)))) (37 : Int32).toNatClampNeg a0)) (vp_updL (xP (xuP (xuP τ (vp_updL (xP τ) (38 : Int32).toNatClampNeg (((j_lshl (xP τ (42 : Int32).toNatClampNeg) (28 : Int32)) ||| (j_lshl (xP τ (45 : Int32).toNatClampNeg) (7 : Int32))) ||| w4))) (vp_updL (xP (xuP τ (vp_updL (xP τ) (38 : Int32).toNatClampNeg (((j_lshl (xP τ (42 : Int32).toNatClampNeg) (28 : Int32)) ||| (j_lshl (xP τ (45 : Int32).toNatClampNeg) (7 : Int32))) ||| w4)))) (37 : Int32).toNatClampNeg a0))) (43 : Int32).toNatClampNeg (1 : Int64)))) (44 : Int32).toNatClampNeg (1 : Int64)))) (45 : Int32).toNatClampNeg (1 : Int64))) ((((xP (xuP (xuP (xuP (xuP (xuP τ (vp_updL (xP τ) (38 : Int32).toNatClampNeg (((j_lshl (xP τ (42 : Int32).toNatClampNeg) (28 : Int32)) ||| (j_lshl (xP τ (45 : Int32).toNatClampNeg) (7 : Int32))) ||| w4))) (vp_updL (xP (xuP τ (vp_updL (xP τ) (38 : Int32).toNatClampNeg (((j_lshl (xP τ (42 : Int32).toNatClampNeg) (28 : Int32)) ||| (j_lshl (xP τ (45 : Int32).toNatClampNeg) (7 : Int32))) ||| w4)))) (37 : Int32).toNatClampNeg a0)) (vp_updL (xP (xuP (xuP τ (vp_updL (xP τ) (38 : Int32).toNatClampNeg (((j_lshl (xP τ (42 : Int32).toNatClampNeg) (28 : Int32)) ||| (j_lshl (xP τ (45 : Int32).toNatClampNeg) (7 : Int32))) ||| w4))) (vp_updL (xP (xuP τ (vp_updL (xP τ) (38 : Int32).toNatClampNeg (((j_lshl (xP τ (42 : Int32).toNatClampNeg) (28 : Int32)) ||| (j_lshl (xP τ (45 : Int32).toNatClampNeg) (7 : Int32))) ||| w4)))) (37 : Int32).toNatClampNeg a0))) (43 : Int32).toNatClampNeg (1 : Int64))) (vp_updL (xP (xuP (xuP (xuP τ (vp_updL (xP τ) (38 : Int32).toNatClampNeg (((j_lshl (xP τ (42 : Int32).toNatClampNeg) (28 : Int32)) ||| (j_lshl (xP τ (45 : Int32).toNatClampNeg) (7 : Int32))) ||| w4))) (vp_updL (xP (xuP τ (vp_updL (xP τ) (38 : Int32).toNatClampNeg (((j_lshl (xP τ (42 : Int32).toNatClampNeg) (28 : Int32)) ||| (j_lshl (xP τ (45 : Int32).toNatClampNeg) (7 : Int32))) ||| w4)))) (37 : Int32).toNatClampNeg a0)) (vp_updL (xP (xuP (xuP τ (vp_updL (xP τ) (38 : Int32).toNatClampNeg (((j_lshl (xP τ (42 : Int32).toNatClampNeg) (28 : Int32)) ||| (j_lshl (xP τ (45 : Int32).toNatClampNeg) (7 : Int32))) ||| w4))) (vp_updL (xP (xuP τ (vp_updL (xP τ) (38 : Int32).toNatClampNeg (((j_lshl (xP τ (42 : Int32).toNatClampNeg) (28 : Int32)) ||| (j_lshl (xP τ (45 : Int32).toNatClampNeg) (7 : Int32))) ||| w4)))) (37 : Int32).toNatClampNeg a0))) (43 : Int32).toNatClampNeg (1 : Int64)))) (44 : Int32).toNatClampNeg (1 : Int64))) (vp_updL (xP (xuP (xuP (xuP (xuP τ (vp_updL (xP τ) (38 : Int32).toNatClampNeg (((j_lshl (xP τ (42 : Int32).toNatClampNeg) (28 : Int32)) ||| (j_lshl (xP τ (45 : Int32).toNatClampNeg) (7 : Int32))) ||| w4))) (vp_updL (xP (xuP τ (vp_updL (xP τ) (38 : Int32).toNatClampNeg (((j_lshl (xP τ (42 : Int32).toNatClampNeg) (28 : Int32)) ||| (j_lshl (xP τ (45 : Int32).toNatClampNeg) (7 : Int32))) ||| w4)))) (37 : Int32).toNatClampNeg a0)) (vp_updL (xP (xuP (xuP τ (vp_updL (xP τ) (38 : Int32).toNatClampNeg (((j_lshl (xP τ (42 : Int32).toNatClampNeg) (28 : Int32)) ||| (j_lshl (xP τ (45 : Int32).toNatClampNeg) (7 : Int32))) ||| w4))) (vp_updL (xP (xuP τ (vp_updL (xP τ) (38 : Int32).toNatClampNeg (((j_lshl (xP τ (42 : Int32).toNatClampNeg) (28 : Int32)) ||| (j_lshl (xP τ (45 : Int32).toNatClampNeg) (7 : Int32))) ||| w4)))) (37 : Int32).toNatClampNeg a0))) (43 : Int32).toNatClampNeg (1 : Int64))) (vp_updL (xP (xuP (xuP (xuP τ (vp_updL (xP τ) (38 : Int32).toNatClampNeg (((j_lshl (xP τ (42 : Int32).toNatClampNeg) (28 : Int32)) ||| (j_lshl (xP τ (45 : Int32).toNatClampNeg) (7 : Int32))) ||| w4))) (vp_updL (xP (xuP τ (vp_updL (xP τ) (38 : Int32).toNatClampNeg (((j_lshl (xP τ (42 : Int32).toNatClampNeg) (28 : Int32)) ||| (j_lshl (xP τ (45 : Int32).toNatClampNeg) (7 : Int32))) ||| w4)))) (37 : Int32).toNatClampNeg a0)) (vp_updL (xP (xuP (xuP τ (vp_updL (xP τ) (38 : Int32).toNatClampNeg (((j_lshl (xP τ (42 : Int32).toNatClampNeg) (28 : Int32)) ||| (j_lshl (xP τ (45 : Int32).toNatClampNeg) (7 : Int32))) ||| w4))) (vp_updL (xP (xuP τ (vp_updL (xP τ) (38 : Int32).toNatClampNeg (((j_lshl (xP τ (42 : Int32).toNatClampNeg) (28 : Int32)) ||| (j_lshl (xP τ (45 : Int32).toNatClampNeg) (7 : Int32))) ||| w4)))) (37 : Int32).toNatClampNeg a0))) (43 : Int32).toNatClampNeg (1 : Int64)))) (44 : Int32).toNatClampNeg (1 : Int64)))) (45 : Int32).toNatClampNeg (1 : Int64))) (36 : Int32).toNatClampNeg) &&& (-2048 : Int64)) + s0) + a1.toInt64)) ((xT (xuN (xuP (xuP (xuP (xuP (xuP τ (vp_updL (xP τ) (38 : Int32).toNatClampNeg (((j_lshl (xP τ (42 : Int32).toNatClampNeg) (28 : Int32)) ||| (j_lshl (xP τ (45 : Int32).toNatClampNeg) (7 : Int32))) ||| w4))) (vp_updL (xP (xuP τ (vp_updL (xP τ) (38 : Int32).toNatClampNeg (((j_lshl (xP τ (42 : Int32).toNatClampNeg) (28 : Int32)) ||| (j_lshl (xP τ (45 : Int32).toNatClampNeg) (7 : Int32))) ||| w4)))) (37 : Int32).toNatClampNeg a0)) (vp_updL (xP (xuP (xuP τ (vp_updL (xP τ) (38 : Int32).toNatClampNeg (((j_lshl (xP τ (42 : Int32).toNatClampNeg) (28 : Int32)) ||| (j_lshl (xP τ (45 : Int32).toNatClampNeg) (7 : Int32))) ||| w4))) (vp_updL (xP (xuP τ (vp_updL (xP τ) (38 : Int32).toNatClampNeg (((j_lshl (xP τ (42 : Int32).toNatClampNeg) (28 : Int32)) ||| (j_lshl (xP τ (45 : Int32).toNatClampNeg) (7 : Int32))) ||| w4)))) (37 : Int32).toNatClampNeg a0))) (43 : Int32).toNatClampNeg (1 : Int64))) (vp_updL (xP (xuP (xuP (xuP τ (vp_updL (xP τ) (38 : Int32).toNatClampNeg (((j_lshl (xP τ (42 : Int32).toNatClampNeg) (28 : Int32)) ||| (j_lshl (xP τ (45 : Int32).toNatClampNeg) (7 : Int32))) ||| w4))) (vp_updL (xP (xuP τ (vp_updL (xP τ) (38 : Int32).toNatClampNeg (((j_lshl (xP τ (42 : Int32).toNatClampNeg) (28 : Int32)) ||| (j_lshl (xP τ (45 : Int32).toNatClampNeg) (7 : Int32))) ||| w4)))) (37 : Int32).toNatClampNeg a0)) (vp_updL (xP (xuP (xuP τ (vp_updL (xP τ) (38 : Int32).toNatClampNeg (((j_lshl (xP τ (42 : Int32).toNatClampNeg) (28 : Int32)) ||| (j_lshl (xP τ (45 : Int32).toNatClampNeg) (7 : Int32))) ||| w4))) (vp_updL (xP (xuP τ (vp_updL (xP τ) (38 : Int32).toNatClampNeg (((j_lshl (xP τ (42 : Int32).toNatClampNeg) (28 : Int32)) ||| (j_lshl (xP τ (45 : Int32).toNatClampNeg) (7 : Int32))) ||| w4)))) (37 : Int32).toNatClampNeg a0))) (43 : Int32).toNatClampNeg (1 : Int64)))) (44 : Int32).toNatClampNeg (1 : Int64))) (vp_updL (xP (xuP (xuP (xuP (xuP τ (vp_updL (xP τ) (38 : Int32).toNatClampNeg (((j_lshl (xP τ (42 : Int32).toNatClampNeg) (28 : Int32)) ||| (j_lshl (xP τ (45 : Int32).toNatClampNeg) (7 : Int32))) ||| w4))) (vp_updL (xP (xuP τ (vp_updL (xP τ) (38 : Int32).toNatClampNeg (((j_lshl (xP τ (42 : Int32).toNatClampNeg) (28 : Int32)) ||| (j_lshl (xP τ (45 : Int32).toNatClampNeg) (7 : Int32))) ||| w4)))) (37 : Int32).toNatClampNeg a0)) (vp_updL (xP (xuP (xuP τ (vp_updL (xP τ) (38 : Int32).toNatClampNeg (((j_lshl (xP τ (42 : Int32).toNatClampNeg) (28 : Int32)) ||| (j_lshl (xP τ (45 : Int32).toNatClampNeg) (7 : Int32))) ||| w4))) (vp_updL (xP (xuP τ (vp_updL (xP τ) (38 : Int32).toNatClampNeg (((j_lshl (xP τ (42 : Int32).toNatClampNeg) (28 : Int32)) ||| (j_lshl (xP τ (45 : Int32).toNatClampNeg) (7 : Int32))) ||| w4)))) (37 : Int32).toNatClampNeg a0))) (43 : Int32).toNatClampNeg (1 : Int64))) (vp_updL (xP (xuP (xuP (xuP τ (vp_updL (xP τ) (38 : Int32).toNatClampNeg (((j_lshl (xP τ (42 : Int32).toNatClampNeg) (28 : Int32)) ||| (j_lshl (xP τ (45 : Int32).toNatClampNeg) (7 : Int32))) ||| w4))) (vp_updL (xP (xuP τ (vp_updL (xP τ) (38 : Int32).toNatClampNeg (((j_lshl (xP τ (42 : Int32).toNatClampNeg) (28 : Int32)) ||| (j_lshl (xP τ (45 : Int32).toNatClampNeg) (7 : Int32))) ||| w4)))) (37 : Int32).toNatClampNeg a0)) (vp_updL (xP (xuP (xuP τ (vp_updL (xP τ) (38 : Int32).toNatClampNeg (((j_lshl (xP τ (42 : Int32).toNatClampNeg) (28 : Int32)) ||| (j_lshl (xP τ (45 : Int32).toNatClampNeg) (7 : Int32))) ||| w4))) (vp_updL (xP (xuP τ (vp_updL (xP τ) (38 : Int32).toNatClampNeg (((j_lshl (xP τ (42 : Int32).toNatClampNeg) (28 : Int32)) ||| (j_lshl (xP τ (45 : Int32).toNatClampNeg) (7 : Int32))) ||| w4)))) (37 : Int32).toNatClampNeg a0))) (43 : Int32).toNatClampNeg (1 : Int64)))) (44 : Int32).toNatClampNeg (1 : Int64)))) (45 : Int32).toNatClampNeg (1 : Int64))) ((((xP (xuP (xuP (xuP (xuP (xuP τ (vp_updL (xP τ) (38 : Int32).toNatClampNeg (((j_lshl (xP τ (42 : Int32).toNatClampNeg) (28 : Int32)) ||| (j_lshl (xP τ (45 : Int32).toNatClampNeg) (7 : Int32))) ||| w4))) (vp_updL (xP (xuP τ (vp_updL (xP τ) (38 : Int32).toNatClampNeg (((j_lshl (xP τ (42 : Int32).toNatClampNeg) (28 : Int32)) ||| (j_lshl (xP τ (45 : Int32).toNatClampNeg) (7 : Int32))) ||| w4)))) (37 : Int32).toNatClampNeg a0)) (vp_updL (xP (xuP (xuP τ (vp_updL (xP τ) (38 : Int32).toNatClampNeg (((j_lshl (xP τ (42 : Int32).toNatClampNeg) (28 : Int32)) ||| (j_lshl (xP τ (45 : Int32).toNatClampNeg) (7 : Int32))) ||| w4))) (vp_updL (xP (xuP τ (vp_updL (xP τ) (38 : Int32).toNatClampNeg (((j_lshl (xP τ (42 : Int32).toNatClampNeg) (28 : Int32)) ||| (j_lshl (xP τ (45 : Int32).toNatClampNeg) (7 : Int32))) ||| w4)))) (37 : Int32).toNatClampNeg a0))) (43 : Int32).toNatClampNeg (1 : Int64))) (vp_updL (xP (xuP (xuP (xuP τ (vp_updL (xP τ) (38 : Int32).toNatClampNeg (((j_lshl (xP τ (42 : Int32).toNatClampNeg) (28 : Int32)) ||| (j_lshl (xP τ (45 : Int32).toNatClampNeg) (7 : Int32))) ||| w4))) (vp_updL (xP (xuP τ (vp_updL (xP τ) (38 : Int32).toNatClampNeg (((j_lshl (xP τ (42 : Int32).toNatClampNeg) (28 : Int32)) ||| (j_lshl (xP τ (45 : Int32).toNatClampNeg) (7 : Int32))) ||| w4)))) (37 : Int32).toNatClampNeg a0)) (vp_updL (xP (xuP (xuP τ (vp_updL (xP τ) (38 : Int32).toNatClampNeg (((j_lshl (xP τ (42 : Int32).toNatClampNeg) (28 : Int32)) ||| (j_lshl (xP τ (45 : Int32).toNatClampNeg) (7 : Int32))) ||| w4))) (vp_updL (xP (xuP τ (vp_updL (xP τ) (38 : Int32).toNatClampNeg (((j_lshl (xP τ (42 : Int32).toNatClampNeg) (28 : Int32)) ||| (j_lshl (xP τ (45 : Int32).toNatClampNeg) (7 : Int32))) ||| w4)))) (37 : Int32).toNatClampNeg a0))) (43 : Int32).toNatClampNeg (1 : Int64)))) (44 : Int32).toNatClampNeg (1 : Int64))) (vp_updL (xP (xuP (xuP (xuP (xuP τ (vp_updL (xP τ) (38 : Int32).toNatClampNeg (((j_lshl (xP τ (42 : Int32).toNatClampNeg) (28 : Int32)) ||| (j_lshl (xP τ (45 : Int32).toNatClampNeg) (7 : Int32))) ||| w4))) (vp_updL (xP (xuP τ (vp_updL (xP τ) (38 : Int32).toNatClampNeg (((j_lshl (xP τ (42 : Int32).toNatClampNeg) (28 : Int32)) ||| (j_lshl (xP τ (45 : Int32).toNatClampNeg) (7 : Int32))) ||| w4)))) (37 : Int32).toNatClampNeg a0)) (vp_updL (xP (xuP (xuP τ (vp_updL (xP τ) (38 : Int32).toNatClampNeg (((j_lshl (xP τ (42 : Int32).toNatClampNeg) (28 : Int32)) ||| (j_lshl (xP τ (45 : Int32).toNatClampNeg) (7 : Int32))) ||| w4))) (vp_updL (xP (xuP τ (vp_updL (xP τ) (38 : Int32).toNatClampNeg (((j_lshl (xP τ (42 : Int32).toNatClampNeg) (28 : Int32)) ||| (j_lshl (xP τ (45 : Int32).toNatClampNeg) (7 : Int32))) ||| w4)))) (37 : Int32).toNatClampNeg a0))) (43 : Int32).toNatClampNeg (1 : Int64))) (vp_updL (xP (xuP (xuP (xuP τ (vp_updL (xP τ) (38 : Int32).toNatClampNeg (((j_lshl (xP τ (42 : Int32).toNatClampNeg) (28 : Int32)) ||| (j_lshl (xP τ (45 : Int32).toNatClampNeg) (7 : Int32))) ||| w4))) (vp_updL (xP (xuP τ (vp_updL (xP τ) (38 : Int32).toNatClampNeg (((j_lshl (xP τ (42 : Int32).toNatClampNeg) (28 : Int32)) ||| (j_lshl (xP τ (45 : Int32).toNatClampNeg) (7 : Int32))) ||| w4)))) (37 : Int32).toNatClampNeg a0)) (vp_updL (xP (xuP (xuP τ (vp_updL (xP τ) (38 : Int32).toNatClampNeg (((j_lshl (xP τ (42 : Int32).toNatClampNeg) (28 : Int32)) ||| (j_lshl (xP τ (45 : Int32).toNatClampNeg) (7 : Int32))) ||| w4))) (vp_updL (xP (xuP τ (vp_updL (xP τ) (38 : Int32).toNatClampNeg (((j_lshl (xP τ (42 : Int32).toNatClampNeg) (28 : Int32)) ||| (j_lshl (xP τ (45 : Int32).toNatClampNeg) (7 : Int32))) ||| w4)))) (37 : Int32).toNatClampNeg a0))) (43 : Int32).toNatClampNeg (1 : Int64)))) (44 : Int32).toNatClampNeg (1 : Int64)))) (45 : Int32).toNatClampNeg (1 : Int64))) (36 : Int32).toNatClampNeg) &&& (-2048 : Int64)) + s0) + a1.toInt64))) + (1 : Int32))) H locs 154 ls hf hP hD hS dX8_enter_154
  have J_c27 : ∀ (τ : XS) (s0 : Int64) (H : Heap) (locs : List Loc) (ls : Array Slot), F_X8_enter_c27 τ a0 a1 s0 = res → va_P z.1 vwCl (xW z r τ) H → va_D A (xW z r τ) → va_S A s.heap H locs → lv_has ls 8 [(0, .ref (r 3)), (1, .long a0), (3, .int a1)] → W p l e { frames := 0, cells := 0, slots := 0, locals := 0 } s m ([.ref (r 3), .long a0, .int a1] : List Value).toArray below meth c H locs 0 0 Q (F0 m 27 ls [.long s0]) := by
    intro τ s0 H locs ls hf hP hD hS hl
    unfold F_X8_enter_c27 at hf
    refine lv_lstore (lv' := [(4, .long s0), (0, .ref (r 3)), (1, .long a0), (3, .int a1)]) hx hb dX8_enter_27 hl (by decide) rfl (fun ls hl => ?_)
    refine lv_aload_n hx hb dX8_enter_29 rfl (lv_at hl 1 rfl) ?_
    refine fg_X8_parts S hK hP tf_X8_9 dX8_enter_30 ?_
    refine lv_bipush (v := 43) hx hb dX8_enter_33 (by decide) ?_
    refine al_xP S hK hP (show vp_in (43 : Int32) 46 by unfold vp_in; decide) dX8_enter_35 ?_
    refine lv_lconst (v := 0) hx hb dX8_enter_36 (by decide) ?_
    refine gl_ne (tgt := 47) hx hb dX8_enter_37 dX8_enter_38 (by decide) (fun c_37 => ?_) (fun c_37 => ?_)
    · rw [if_neg c_37] at hf
      refine lv_ldc2 (v := 512) hx hb hown (hts _ tk_X8_57) dX8_enter_47 ?_
      refine lv_aload_n hx hb dX8_enter_50 rfl (lv_at hl 1 rfl) ?_
      refine fg_X8_parts S hK hP tf_X8_9 dX8_enter_51 ?_
      refine lv_bipush (v := 44) hx hb dX8_enter_54 (by decide) ?_
      refine al_xP S hK hP (show vp_in (44 : Int32) 46 by unfold vp_in; decide) dX8_enter_56 ?_
      refine lv_lmul hx hb dX8_enter_57 ?_
      exact J_c58 τ s0 ((512 : Int64) * (xP τ (44 : Int32).toNatClampNeg)) H locs ls hf hP hD hS (lv_sub hl [1, 2, 3, 0] rfl)
    · rw [if_pos c_37] at hf
      refine lv_ldc2 (v := 1024) hx hb hown (hts _ tk_X8_55) dX8_enter_41 ?_
      refine lv_goto (tgt := 58) hx hb dX8_enter_44 (by decide) ?_
      exact J_c58 τ s0 (1024 : Int64) H locs ls hf hP hD hS (lv_sub hl [1, 2, 3, 0] rfl)
  unfold F_X8_enter at hf
  refine lv_aload_n hx hb dX8_enter_0 rfl (lv_at hl 0 rfl) ?_
  refine fg_X8_parts S hK hP tf_X8_9 dX8_enter_1 ?_
  refine lv_bipush (v := 43) hx hb dX8_enter_4 (by decide) ?_
  refine al_xP S hK hP (show vp_in (43 : Int32) 46 by unfold vp_in; decide) dX8_enter_6 ?_
  refine lv_lconst (v := 0) hx hb dX8_enter_7 (by decide) ?_
  refine gl_ne (tgt := 16) hx hb dX8_enter_8 dX8_enter_9 (by decide) (fun c_8 => ?_) (fun c_8 => ?_)
  · rw [if_neg c_8] at hf
    refine lv_ldc2 (v := 4) hx hb hown (hts _ tk_X8_29) dX8_enter_16 ?_
    refine lv_aload_n hx hb dX8_enter_19 rfl (lv_at hl 0 rfl) ?_
    refine fg_X8_parts S hK hP tf_X8_9 dX8_enter_20 ?_
    refine lv_bipush (v := 44) hx hb dX8_enter_23 (by decide) ?_
    refine al_xP S hK hP (show vp_in (44 : Int32) 46 by unfold vp_in; decide) dX8_enter_25 ?_
    refine lv_ladd hx hb dX8_enter_26 ?_
    exact J_c27 σ ((4 : Int64) + (xP σ (44 : Int32).toNatClampNeg)) H locs ls hf hP hD hS (lv_sub hl [0, 1, 2] rfl)
  · rw [if_pos c_8] at hf
    refine lv_lconst (v := 0) hx hb dX8_enter_12 (by decide) ?_
    refine lv_goto (tgt := 27) hx hb dX8_enter_13 (by decide) ?_
    exact J_c27 σ (0 : Int64) H locs ls hf hP hD hS (lv_sub hl [0, 1, 2] rfl)
theorem k_X8_enter {p : Program} {l : Launch} {e : Env} {R : Room} {s : State} {m : MethodId} {args : Array Value} {below : List Frame} {meth : Method} {c : Code} {H : Heap} {locs : List Loc} {Q : State → Prop} {cc : ByteArray} {pc : Nat} {ls : Array Slot} {rest : List Value} {own : String} {index nL : Nat} {A : Nat → Prop} {z : Cx} {r : Nat → Nat} {σ : XS} {a0 : Int64} {a1 : Int32} (S : CallFix p m c cc nL s args tbG own) (hK : va_K z.1 vwCl (cxT z) s) (hA : ∀ q, s.heap.size ≤ q → A q) (hP : va_P z.1 vwCl (xW z r σ) H) (hD : va_D A (xW z r σ)) (hS : va_S A s.heap H locs) (hl : Cond.methodLink own index yX8_enter ∈ tbG) (hR : 0 + 1 ≤ R.frames ∧ 8 + (8 + 11) + 0 ≤ R.locals) (hsz : ls.size = nL) (hcat : (rest.map fun v => v.category).sum ≤ 8) (hdg : decode cc pc = .ok (.invokevirtual index, 3)) (kk : ∀ (H : Heap) (locs : List Loc), va_P z.1 vwCl (xW z r (F_X8_enter σ a0 a1)) H → va_D A (xW z r (F_X8_enter σ a0 a1)) → va_S A s.heap H locs → W p l e R s m args below meth c H locs 0 0 Q (F0 m (pc + 3) ls (rest))) : W p l e R s m args below meth c H locs 0 0 Q (F0 m pc ls (.int a1 :: .long a0 :: .ref (r 3) :: rest)) :=
  km (As := [.long a0, .int a1]) (ov := none) (w' := xW z r (F_X8_enter σ a0 a1)) (q0 := 3) (ci := 7) S hK hA hP hD hS (c_X8_enter l z r σ a0 a1 H.size _ rfl) ⟨tb_cB 2 S.2.2.2.2 tc_X8_enter ti_X8 hl rfl rfl (by decide +kernel) hR, S.2.2.2.2 _ tm_X8_enter, S.2.2.2.2 _ te_X8_enter⟩ rfl rfl rfl rfl hsz rfl hcat hdg kk

theorem dX8_raise_0 : decode cX8_raise 0 = .ok (.aload_n 0, 1) := by decide +kernel
theorem dX8_raise_1 : decode cX8_raise 1 = .ok (.iload_n 1, 1) := by decide +kernel
theorem dX8_raise_2 : decode cX8_raise 2 = .ok (.iload_n 2, 1) := by decide +kernel
theorem dX8_raise_3 : decode cX8_raise 3 = .ok (.invokevirtual 49, 3) := by decide +kernel
theorem dX8_raise_6 : decode cX8_raise 6 = .ok (.aload_n 0, 1) := by decide +kernel
theorem dX8_raise_7 : decode cX8_raise 7 = .ok (.aload_n 0, 1) := by decide +kernel
theorem dX8_raise_8 : decode cX8_raise 8 = .ok (.getfield 9, 3) := by decide +kernel
theorem dX8_raise_11 : decode cX8_raise 11 = .ok (.bipush 33, 2) := by decide +kernel
theorem dX8_raise_13 : decode cX8_raise 13 = .ok (.laload, 1) := by decide +kernel
theorem dX8_raise_14 : decode cX8_raise 14 = .ok (.iconst 0, 1) := by decide +kernel
theorem dX8_raise_15 : decode cX8_raise 15 = .ok (.invokevirtual 45, 3) := by decide +kernel
theorem dX8_raise_18 : decode cX8_raise 18 = .ok (.return_, 1) := by decide +kernel
def F_X8_raise_c18 (τ : XS) (a0 : Int32) (a1 : Int32) : XS := τ
def F_X8_raise (σ : XS) (a0 : Int32) (a1 : Int32) : XS := (F_X8_raise_c18 (F_X8_enter (F_X8_tell σ a0 a1) (xP (F_X8_tell σ a0 a1) (33 : Int32).toNatClampNeg) (0 : Int32)) a0 a1)
set_option maxHeartbeats 4000000 in
set_option maxRecDepth 100000 in
theorem c_X8_raise (l : Launch) (z : Cx) (r : Nat → Nat) (σ : XS) (a0 : Int32) (a1 : Int32) (sz : Nat) (res : XS) (hf : F_X8_raise σ a0 a1 = res) : Met l yX8_raise (wsC yX8_raise cX8_raise 3 none) { frames := 1, cells := 0, slots := 0, locals := 27 } (mPc z (xW z r σ) sz [.ref (r 3), .int a0, .int a1]) (gM z (va_A (xW z r σ) sz) none (xW z r res)) 0 0 (va_A (xW z r σ) sz) := by
  refine mk_m_v (own := RX8) (wf := xW z r) (by decide) rfl sz _ (Nat.le_of_ble_eq_true rfl) (fun p e s m below meth c A H locs Q ls S hK hA hP hD hS hl hend => ?_)
  have hx := S.1
  have hb := S.2.1
  have hown := S.2.2.2.1
  have hts := S.2.2.2.2
  have hl : lv_has ls 3 [(0, .ref (r 3)), (1, .int a0), (2, .int a1)] := hl
  have J_c18 : ∀ (τ : XS) (H : Heap) (locs : List Loc) (ls : Array Slot), F_X8_raise_c18 τ a0 a1 = res → va_P z.1 vwCl (xW z r τ) H → va_D A (xW z r τ) → va_S A s.heap H locs → lv_has ls 3 [] → W p l e { frames := 1, cells := 0, slots := 0, locals := 27 } s m ([.ref (r 3), .int a0, .int a1] : List Value).toArray below meth c H locs 0 0 Q (F0 m 18 ls []) := by
    intro τ H locs ls hf hP hD hS hl
    unfold F_X8_raise_c18 at hf
    exact hend τ H locs 18 ls hf hP hD hS dX8_raise_18
  unfold F_X8_raise at hf
  refine lv_aload_n hx hb dX8_raise_0 rfl (lv_at hl 0 rfl) ?_
  refine lv_iload_n hx hb dX8_raise_1 rfl (lv_at hl 1 rfl) ?_
  refine lv_iload_n hx hb dX8_raise_2 rfl (lv_at hl 2 rfl) ?_
  refine k_X8_tell (a0 := a0) (a1 := a1) S hK hA hP hD hS tl_X8_49 ⟨Nat.le_of_ble_eq_true rfl, Nat.le_of_ble_eq_true rfl⟩ hl.1 (Nat.le_of_ble_eq_true rfl) dX8_raise_3 (fun H locs hP hD hS => ?_)
  refine lv_aload_n hx hb dX8_raise_6 rfl (lv_at hl 0 rfl) ?_
  refine lv_aload_n hx hb dX8_raise_7 rfl (lv_at hl 0 rfl) ?_
  refine fg_X8_parts S hK hP tf_X8_9 dX8_raise_8 ?_
  refine lv_bipush (v := 33) hx hb dX8_raise_11 (by decide) ?_
  refine al_xP S hK hP (show vp_in (33 : Int32) 46 by unfold vp_in; decide) dX8_raise_13 ?_
  refine lv_iconst (v := 0) hx hb dX8_raise_14 (by decide) ?_
  refine k_X8_enter (a0 := (xP (F_X8_tell σ a0 a1) (33 : Int32).toNatClampNeg)) (a1 := (0 : Int32)) S hK hA hP hD hS tl_X8_45 ⟨Nat.le_of_ble_eq_true rfl, Nat.le_of_ble_eq_true rfl⟩ hl.1 (Nat.le_of_ble_eq_true rfl) dX8_raise_15 (fun H locs hP hD hS => ?_)
  exact J_c18 (F_X8_enter (F_X8_tell σ a0 a1) (xP (F_X8_tell σ a0 a1) (33 : Int32).toNatClampNeg) (0 : Int32)) H locs ls hf hP hD hS (lv_sub hl [] rfl)
theorem k_X8_raise {p : Program} {l : Launch} {e : Env} {R : Room} {s : State} {m : MethodId} {args : Array Value} {below : List Frame} {meth : Method} {c : Code} {H : Heap} {locs : List Loc} {Q : State → Prop} {cc : ByteArray} {pc : Nat} {ls : Array Slot} {rest : List Value} {own : String} {index nL : Nat} {A : Nat → Prop} {z : Cx} {r : Nat → Nat} {σ : XS} {a0 : Int32} {a1 : Int32} (S : CallFix p m c cc nL s args tbG own) (hK : va_K z.1 vwCl (cxT z) s) (hA : ∀ q, s.heap.size ≤ q → A q) (hP : va_P z.1 vwCl (xW z r σ) H) (hD : va_D A (xW z r σ)) (hS : va_S A s.heap H locs) (hl : Cond.methodLink own index yX8_raise ∈ tbG) (hR : 1 + 1 ≤ R.frames ∧ 8 + (3 + 11) + 27 ≤ R.locals) (hsz : ls.size = nL) (hcat : (rest.map fun v => v.category).sum ≤ 8) (hdg : decode cc pc = .ok (.invokevirtual index, 3)) (kk : ∀ (H : Heap) (locs : List Loc), va_P z.1 vwCl (xW z r (F_X8_raise σ a0 a1)) H → va_D A (xW z r (F_X8_raise σ a0 a1)) → va_S A s.heap H locs → W p l e R s m args below meth c H locs 0 0 Q (F0 m (pc + 3) ls (rest))) : W p l e R s m args below meth c H locs 0 0 Q (F0 m pc ls (.int a1 :: .int a0 :: .ref (r 3) :: rest)) :=
  km (As := [.int a0, .int a1]) (ov := none) (w' := xW z r (F_X8_raise σ a0 a1)) (q0 := 3) (ci := 7) S hK hA hP hD hS (c_X8_raise l z r σ a0 a1 H.size _ rfl) ⟨tb_cB 2 S.2.2.2.2 tc_X8_raise ti_X8 hl rfl rfl (by decide +kernel) hR, S.2.2.2.2 _ tm_X8_raise, S.2.2.2.2 _ te_X8_raise⟩ rfl rfl rfl rfl hsz rfl hcat hdg kk

theorem dX0_change_0 : decode cX0_change 0 = .ok (.iload_n 0, 1) := by decide +kernel
theorem dX0_change_1 : decode cX0_change 1 = .ok (.bipush 24, 2) := by decide +kernel
theorem dX0_change_3 : decode cX0_change 3 = .ok (.invokestatic 79, 3) := by decide +kernel
theorem dX0_change_6 : decode cX0_change 6 = .ok (.ifCond .ne 12, 3) := by decide +kernel
theorem dX0_change_9 : decode cX0_change 9 = .ok (.iload_n 0, 1) := by decide +kernel
theorem dX0_change_10 : decode cX0_change 10 = .ok (.bipush 21, 2) := by decide +kernel
theorem dX0_change_12 : decode cX0_change 12 = .ok (.invokestatic 79, 3) := by decide +kernel
theorem dX0_change_15 : decode cX0_change 15 = .ok (.ifCond .eq 7, 3) := by decide +kernel
theorem dX0_change_18 : decode cX0_change 18 = .ok (.iconst 0, 1) := by decide +kernel
theorem dX0_change_19 : decode cX0_change 19 = .ok (.goto 10, 3) := by decide +kernel
theorem dX0_change_22 : decode cX0_change 22 = .ok (.iload_n 0, 1) := by decide +kernel
theorem dX0_change_23 : decode cX0_change 23 = .ok (.bipush 10, 2) := by decide +kernel
theorem dX0_change_25 : decode cX0_change 25 = .ok (.iconst 2, 1) := by decide +kernel
theorem dX0_change_26 : decode cX0_change 26 = .ok (.invokestatic 21, 3) := by decide +kernel
theorem dX0_change_29 : decode cX0_change 29 = .ok (.ireturn, 1) := by decide +kernel
def F_X0_change (a0 : Int32) : Int32 := (if (F_X1_isOne a0 (24 : Int32)) = true then (0 : Int32) else (if (F_X1_isOne a0 (21 : Int32)) = true then (0 : Int32) else (F_X1_field a0 (10 : Int32) (2 : Int32))))
set_option maxHeartbeats 4000000 in
set_option maxRecDepth 100000 in
theorem c_X0_change (l : Launch) (a0 : Int32) (res : Int32) (hf : F_X0_change a0 = res) : Met l yX0_change (wsC yX0_change cX0_change 1 (some .int)) { frames := 1, cells := 0, slots := 0, locals := 22 } (fun v _ => v = ([.int a0] : List Value).toArray) (gS (some (.int res))) 0 0 (fun _ => False) := by
  refine mk_s_i (own := RX0) (by decide) rfl _ (Nat.le_of_ble_eq_true rfl) (fun p e s m below meth c H locs Q ls S hl hend => ?_)
  have hx := S.1
  have hb := S.2.1
  have hown := S.2.2.2.1
  have hts := S.2.2.2.2
  have hl : lv_has ls 1 [(0, .int a0)] := hl
  unfold F_X0_change at hf
  refine lv_iload_n hx hb dX0_change_0 rfl (lv_at hl 0 rfl) ?_
  refine lv_bipush (v := 24) hx hb dX0_change_1 (by decide) ?_
  refine k_X1_isOne (a0 := a0) (a1 := (24 : Int32)) S tl_X0_79 ⟨Nat.le_of_ble_eq_true rfl, Nat.le_of_ble_eq_true rfl⟩ hl.1 (Nat.le_of_ble_eq_true rfl) dX0_change_3 ?_
  refine gz_ne (tgt := 18) hx hb dX0_change_6 (by decide) (fun c_6 => ?_) (fun c_6 => ?_)
  · rw [if_pos c_6] at hf
    refine lv_iconst (v := 0) hx hb dX0_change_18 (by decide) ?_
    refine lv_goto (tgt := 29) hx hb dX0_change_19 (by decide) ?_
    exact hend (0 : Int32) 29 ls hf dX0_change_29
  · rw [if_neg c_6] at hf
    refine lv_iload_n hx hb dX0_change_9 rfl (lv_at hl 0 rfl) ?_
    refine lv_bipush (v := 21) hx hb dX0_change_10 (by decide) ?_
    refine k_X1_isOne (a0 := a0) (a1 := (21 : Int32)) S tl_X0_79 ⟨Nat.le_of_ble_eq_true rfl, Nat.le_of_ble_eq_true rfl⟩ hl.1 (Nat.le_of_ble_eq_true rfl) dX0_change_12 ?_
    refine gz_eq (tgt := 22) hx hb dX0_change_15 (by decide) (fun c_15 => ?_) (fun c_15 => ?_)
    · rw [if_neg c_15] at hf
      refine lv_iload_n hx hb dX0_change_22 rfl (lv_at hl 0 rfl) ?_
      refine lv_bipush (v := 10) hx hb dX0_change_23 (by decide) ?_
      refine lv_iconst (v := 2) hx hb dX0_change_25 (by decide) ?_
      refine k_X1_field (a0 := a0) (a1 := (10 : Int32)) (a2 := (2 : Int32)) S tl_X0_21 ⟨Nat.le_of_ble_eq_true rfl, Nat.le_of_ble_eq_true rfl⟩ hl.1 (Nat.le_of_ble_eq_true rfl) dX0_change_26 ?_
      exact hend (F_X1_field a0 (10 : Int32) (2 : Int32)) 29 ls hf dX0_change_29
    · rw [if_pos c_15] at hf
      refine lv_iconst (v := 0) hx hb dX0_change_18 (by decide) ?_
      refine lv_goto (tgt := 29) hx hb dX0_change_19 (by decide) ?_
      exact hend (0 : Int32) 29 ls hf dX0_change_29
theorem k_X0_change {p : Program} {l : Launch} {e : Env} {R : Room} {s : State} {m : MethodId} {args : Array Value} {below : List Frame} {meth : Method} {c : Code} {H : Heap} {locs : List Loc} {Q : State → Prop} {cc : ByteArray} {pc : Nat} {ls : Array Slot} {rest : List Value} {own : String} {index nL : Nat} {a0 : Int32} (S : CallFix p m c cc nL s args tbG own) (hl : Cond.methodLink own index yX0_change ∈ tbG) (hR : 1 + 1 ≤ R.frames ∧ 8 + (1 + 11) + 22 ≤ R.locals) (hsz : ls.size = nL) (hcat : (rest.map fun v => v.category).sum ≤ 8) (hdg : decode cc pc = .ok (.invokestatic index, 3)) (kk : W p l e R s m args below meth c H locs 0 0 Q (F0 m (pc + 3) ls (.int (F_X0_change a0) :: rest))) : W p l e R s m args below meth c H locs 0 0 Q (F0 m pc ls (.int a0 :: rest)) :=
  ks (As := [.int a0]) (ov := some (.int (F_X0_change a0))) S (c_X0_change l a0 _ rfl) ⟨tb_cB 1 S.2.2.2.2 tc_X0_change ti_X0 hl rfl rfl (by decide +kernel) hR, S.2.2.2.2 _ ts_X0_change⟩ rfl hsz rfl hcat hdg kk

theorem dX1_signedField_0 : decode cX1_signedField 0 = .ok (.iload_n 0, 1) := by decide +kernel
theorem dX1_signedField_1 : decode cX1_signedField 1 = .ok (.bipush 32, 2) := by decide +kernel
theorem dX1_signedField_3 : decode cX1_signedField 3 = .ok (.iload_n 1, 1) := by decide +kernel
theorem dX1_signedField_4 : decode cX1_signedField 4 = .ok (.isub, 1) := by decide +kernel
theorem dX1_signedField_5 : decode cX1_signedField 5 = .ok (.iload_n 2, 1) := by decide +kernel
theorem dX1_signedField_6 : decode cX1_signedField 6 = .ok (.isub, 1) := by decide +kernel
theorem dX1_signedField_7 : decode cX1_signedField 7 = .ok (.ishl, 1) := by decide +kernel
theorem dX1_signedField_8 : decode cX1_signedField 8 = .ok (.bipush 32, 2) := by decide +kernel
theorem dX1_signedField_10 : decode cX1_signedField 10 = .ok (.iload_n 2, 1) := by decide +kernel
theorem dX1_signedField_11 : decode cX1_signedField 11 = .ok (.isub, 1) := by decide +kernel
theorem dX1_signedField_12 : decode cX1_signedField 12 = .ok (.ishr, 1) := by decide +kernel
theorem dX1_signedField_13 : decode cX1_signedField 13 = .ok (.i2l, 1) := by decide +kernel
theorem dX1_signedField_14 : decode cX1_signedField 14 = .ok (.lreturn, 1) := by decide +kernel
def F_X1_signedField (a0 : Int32) (a1 : Int32) (a2 : Int32) : Int64 := ((a0 <<< ((((32 : Int32) - a1) - a2) &&& 31)) >>> (((32 : Int32) - a2) &&& 31)).toInt64
set_option maxHeartbeats 4000000 in
set_option maxRecDepth 100000 in
theorem c_X1_signedField (l : Launch) (a0 : Int32) (a1 : Int32) (a2 : Int32) (res : Int64) (hf : F_X1_signedField a0 a1 a2 = res) : Met l yX1_signedField (wsC yX1_signedField cX1_signedField 3 (some .long)) { frames := 0, cells := 0, slots := 0, locals := 0 } (fun v _ => v = ([.int a0, .int a1, .int a2] : List Value).toArray) (gS (some (.long res))) 0 0 (fun _ => False) := by
  refine mk_s_l (own := RX1) (by decide) rfl _ (Nat.le_of_ble_eq_true rfl) (fun p e s m below meth c H locs Q ls S hl hend => ?_)
  have hx := S.1
  have hb := S.2.1
  have hown := S.2.2.2.1
  have hts := S.2.2.2.2
  have hl : lv_has ls 3 [(0, .int a0), (1, .int a1), (2, .int a2)] := hl
  unfold F_X1_signedField at hf
  refine lv_iload_n hx hb dX1_signedField_0 rfl (lv_at hl 0 rfl) ?_
  refine lv_bipush (v := 32) hx hb dX1_signedField_1 (by decide) ?_
  refine lv_iload_n hx hb dX1_signedField_3 rfl (lv_at hl 1 rfl) ?_
  refine lv_isub hx hb dX1_signedField_4 ?_
  refine lv_iload_n hx hb dX1_signedField_5 rfl (lv_at hl 2 rfl) ?_
  refine lv_isub hx hb dX1_signedField_6 ?_
  refine lv_ishl hx hb dX1_signedField_7 ?_
  refine lv_bipush (v := 32) hx hb dX1_signedField_8 (by decide) ?_
  refine lv_iload_n hx hb dX1_signedField_10 rfl (lv_at hl 2 rfl) ?_
  refine lv_isub hx hb dX1_signedField_11 ?_
  refine lv_ishr hx hb dX1_signedField_12 ?_
  refine lv_i2l hx hb dX1_signedField_13 rfl ?_
  exact hend ((a0 <<< ((((32 : Int32) - a1) - a2) &&& 31)) >>> (((32 : Int32) - a2) &&& 31)).toInt64 14 ls hf dX1_signedField_14
theorem k_X1_signedField {p : Program} {l : Launch} {e : Env} {R : Room} {s : State} {m : MethodId} {args : Array Value} {below : List Frame} {meth : Method} {c : Code} {H : Heap} {locs : List Loc} {Q : State → Prop} {cc : ByteArray} {pc : Nat} {ls : Array Slot} {rest : List Value} {own : String} {index nL : Nat} {a0 : Int32} {a1 : Int32} {a2 : Int32} (S : CallFix p m c cc nL s args tbG own) (hl : Cond.methodLink own index yX1_signedField ∈ tbG) (hR : 0 + 1 ≤ R.frames ∧ 8 + (3 + 11) + 0 ≤ R.locals) (hsz : ls.size = nL) (hcat : (rest.map fun v => v.category).sum ≤ 8) (hdg : decode cc pc = .ok (.invokestatic index, 3)) (kk : W p l e R s m args below meth c H locs 0 0 Q (F0 m (pc + 3) ls (.long (F_X1_signedField a0 a1 a2) :: rest))) : W p l e R s m args below meth c H locs 0 0 Q (F0 m pc ls (.int a2 :: .int a1 :: .int a0 :: rest)) :=
  ks (As := [.int a0, .int a1, .int a2]) (ov := some (.long (F_X1_signedField a0 a1 a2))) S (c_X1_signedField l a0 a1 a2 _ rfl) ⟨tb_cB 3 S.2.2.2.2 tc_X1_signedField ti_X1 hl rfl rfl (by decide +kernel) hR, S.2.2.2.2 _ ts_X1_signedField⟩ rfl hsz rfl hcat hdg kk

theorem dX8_register_0 : decode cX8_register 0 = .ok (.iload_n 1, 1) := by decide +kernel
theorem dX8_register_1 : decode cX8_register 1 = .ok (.bipush 31, 2) := by decide +kernel
theorem dX8_register_3 : decode cX8_register 3 = .ok (.if_icmp .ne 7, 3) := by decide +kernel
theorem dX8_register_6 : decode cX8_register 6 = .ok (.lconst 0, 1) := by decide +kernel
theorem dX8_register_7 : decode cX8_register 7 = .ok (.goto 8, 3) := by decide +kernel
theorem dX8_register_10 : decode cX8_register 10 = .ok (.aload_n 0, 1) := by decide +kernel
theorem dX8_register_11 : decode cX8_register 11 = .ok (.iload_n 1, 1) := by decide +kernel
theorem dX8_register_12 : decode cX8_register 12 = .ok (.invokevirtual 15, 3) := by decide +kernel
theorem dX8_register_15 : decode cX8_register 15 = .ok (.lreturn, 1) := by decide +kernel
def F_X8_register (σ : XS) (a0 : Int32) : Int64 := (if a0 = (31 : Int32) then (0 : Int64) else (F_X8_part σ a0))
set_option maxHeartbeats 4000000 in
set_option maxRecDepth 100000 in
theorem c_X8_register (l : Launch) (z : Cx) (r : Nat → Nat) (σ : XS) (a0 : Int32) (res : Int64) (hf : F_X8_register σ a0 = res) : Met l yX8_register (wsC yX8_register cX8_register 2 (some .long)) { frames := 1, cells := 0, slots := 0, locals := 21 } (rPc z (xW z r σ) [.ref (r 3), .int a0]) (gS (some (.long res))) 0 0 (fun _ => False) := by
  refine mk_r_l (own := RX8) (by decide) rfl _ (Nat.le_of_ble_eq_true rfl) (fun p e s m below meth c H locs Q ls S hK hP hl hend => ?_)
  have hx := S.1
  have hb := S.2.1
  have hown := S.2.2.2.1
  have hts := S.2.2.2.2
  have hl : lv_has ls 2 [(0, .ref (r 3)), (1, .int a0)] := hl
  unfold F_X8_register at hf
  refine lv_iload_n hx hb dX8_register_0 rfl (lv_at hl 1 rfl) ?_
  refine lv_bipush (v := 31) hx hb dX8_register_1 (by decide) ?_
  refine lv_icmp_ne (tgt := 10) hx hb dX8_register_3 (by decide) (fun c_3 => ?_) (fun c_3 => ?_)
  · rw [if_neg c_3] at hf
    refine lv_aload_n hx hb dX8_register_10 rfl (lv_at hl 0 rfl) ?_
    refine lv_iload_n hx hb dX8_register_11 rfl (lv_at hl 1 rfl) ?_
    refine k_X8_part (a0 := a0) S hK hP tl_X8_15 ⟨Nat.le_of_ble_eq_true rfl, Nat.le_of_ble_eq_true rfl⟩ hl.1 (Nat.le_of_ble_eq_true rfl) dX8_register_12 ?_
    exact hend (F_X8_part σ a0) 15 ls hf dX8_register_15
  · rw [if_pos c_3] at hf
    refine lv_lconst (v := 0) hx hb dX8_register_6 (by decide) ?_
    refine lv_goto (tgt := 15) hx hb dX8_register_7 (by decide) ?_
    exact hend (0 : Int64) 15 ls hf dX8_register_15
theorem k_X8_register {p : Program} {l : Launch} {e : Env} {R : Room} {s : State} {m : MethodId} {args : Array Value} {below : List Frame} {meth : Method} {c : Code} {H : Heap} {locs : List Loc} {Q : State → Prop} {cc : ByteArray} {pc : Nat} {ls : Array Slot} {rest : List Value} {own : String} {index nL : Nat} {z : Cx} {r : Nat → Nat} {σ : XS} {a0 : Int32} (S : CallFix p m c cc nL s args tbG own) (hK : va_K z.1 vwCl (cxT z) s) (hP : va_P z.1 vwCl (xW z r σ) H) (hl : Cond.methodLink own index yX8_register ∈ tbG) (hR : 1 + 1 ≤ R.frames ∧ 8 + (2 + 11) + 21 ≤ R.locals) (hsz : ls.size = nL) (hcat : (rest.map fun v => v.category).sum ≤ 8) (hdg : decode cc pc = .ok (.invokevirtual index, 3)) (kk : W p l e R s m args below meth c H locs 0 0 Q (F0 m (pc + 3) ls (.long (F_X8_register σ a0) :: rest))) : W p l e R s m args below meth c H locs 0 0 Q (F0 m pc ls (.int a0 :: .ref (r 3) :: rest)) :=
  kr (As := [.int a0]) (ov := some (.long (F_X8_register σ a0))) (q0 := 3) (ci := 7) S hK hP (c_X8_register l z r σ a0 _ rfl) ⟨tb_cB 1 S.2.2.2.2 tc_X8_register ti_X8 hl rfl rfl (by decide +kernel) hR, S.2.2.2.2 _ tm_X8_register, S.2.2.2.2 _ te_X8_register⟩ rfl rfl rfl rfl hsz rfl hcat hdg kk

theorem dX0_offset_0 : decode cX0_offset 0 = .ok (.iload_n 1, 1) := by decide +kernel
theorem dX0_offset_1 : decode cX0_offset 1 = .ok (.bipush 30, 2) := by decide +kernel
theorem dX0_offset_3 : decode cX0_offset 3 = .ok (.iushr, 1) := by decide +kernel
theorem dX0_offset_4 : decode cX0_offset 4 = .ok (.istore_n 2, 1) := by decide +kernel
theorem dX0_offset_5 : decode cX0_offset 5 = .ok (.iload_n 1, 1) := by decide +kernel
theorem dX0_offset_6 : decode cX0_offset 6 = .ok (.bipush 24, 2) := by decide +kernel
theorem dX0_offset_8 : decode cX0_offset 8 = .ok (.invokestatic 79, 3) := by decide +kernel
theorem dX0_offset_11 : decode cX0_offset 11 = .ok (.ifCond .eq 15, 3) := by decide +kernel
theorem dX0_offset_14 : decode cX0_offset 14 = .ok (.iload_n 1, 1) := by decide +kernel
theorem dX0_offset_15 : decode cX0_offset 15 = .ok (.bipush 10, 2) := by decide +kernel
theorem dX0_offset_17 : decode cX0_offset 17 = .ok (.bipush 12, 2) := by decide +kernel
theorem dX0_offset_19 : decode cX0_offset 19 = .ok (.invokestatic 21, 3) := by decide +kernel
theorem dX0_offset_22 : decode cX0_offset 22 = .ok (.i2l, 1) := by decide +kernel
theorem dX0_offset_23 : decode cX0_offset 23 = .ok (.iload_n 2, 1) := by decide +kernel
theorem dX0_offset_24 : decode cX0_offset 24 = .ok (.lshl, 1) := by decide +kernel
theorem dX0_offset_25 : decode cX0_offset 25 = .ok (.lreturn, 1) := by decide +kernel
theorem dX0_offset_26 : decode cX0_offset 26 = .ok (.iload_n 1, 1) := by decide +kernel
theorem dX0_offset_27 : decode cX0_offset 27 = .ok (.bipush 21, 2) := by decide +kernel
theorem dX0_offset_29 : decode cX0_offset 29 = .ok (.invokestatic 79, 3) := by decide +kernel
theorem dX0_offset_32 : decode cX0_offset 32 = .ok (.ifCond .ne 12, 3) := by decide +kernel
theorem dX0_offset_35 : decode cX0_offset 35 = .ok (.iload_n 1, 1) := by decide +kernel
theorem dX0_offset_36 : decode cX0_offset 36 = .ok (.bipush 12, 2) := by decide +kernel
theorem dX0_offset_38 : decode cX0_offset 38 = .ok (.bipush 9, 2) := by decide +kernel
theorem dX0_offset_40 : decode cX0_offset 40 = .ok (.invokestatic 83, 3) := by decide +kernel
theorem dX0_offset_43 : decode cX0_offset 43 = .ok (.lreturn, 1) := by decide +kernel
theorem dX0_offset_44 : decode cX0_offset 44 = .ok (.aload_n 0, 1) := by decide +kernel
theorem dX0_offset_45 : decode cX0_offset 45 = .ok (.getfield 13, 3) := by decide +kernel
theorem dX0_offset_48 : decode cX0_offset 48 = .ok (.iload_n 1, 1) := by decide +kernel
theorem dX0_offset_49 : decode cX0_offset 49 = .ok (.bipush 16, 2) := by decide +kernel
theorem dX0_offset_51 : decode cX0_offset 51 = .ok (.iconst 5, 1) := by decide +kernel
theorem dX0_offset_52 : decode cX0_offset 52 = .ok (.invokestatic 21, 3) := by decide +kernel
theorem dX0_offset_55 : decode cX0_offset 55 = .ok (.invokevirtual 55, 3) := by decide +kernel
theorem dX0_offset_58 : decode cX0_offset 58 = .ok (.lstore_n 3, 1) := by decide +kernel
theorem dX0_offset_59 : decode cX0_offset 59 = .ok (.iload_n 1, 1) := by decide +kernel
theorem dX0_offset_60 : decode cX0_offset 60 = .ok (.bipush 13, 2) := by decide +kernel
theorem dX0_offset_62 : decode cX0_offset 62 = .ok (.invokestatic 79, 3) := by decide +kernel
theorem dX0_offset_65 : decode cX0_offset 65 = .ok (.ifCond .ne 24, 3) := by decide +kernel
theorem dX0_offset_68 : decode cX0_offset 68 = .ok (.iload_n 1, 1) := by decide +kernel
theorem dX0_offset_69 : decode cX0_offset 69 = .ok (.bipush 15, 2) := by decide +kernel
theorem dX0_offset_71 : decode cX0_offset 71 = .ok (.invokestatic 79, 3) := by decide +kernel
theorem dX0_offset_74 : decode cX0_offset 74 = .ok (.ifCond .eq 9, 3) := by decide +kernel
theorem dX0_offset_77 : decode cX0_offset 77 = .ok (.lload_n 3, 1) := by decide +kernel
theorem dX0_offset_78 : decode cX0_offset 78 = .ok (.l2i, 1) := by decide +kernel
theorem dX0_offset_79 : decode cX0_offset 79 = .ok (.i2l, 1) := by decide +kernel
theorem dX0_offset_80 : decode cX0_offset 80 = .ok (.goto 8, 3) := by decide +kernel
theorem dX0_offset_83 : decode cX0_offset 83 = .ok (.lload_n 3, 1) := by decide +kernel
theorem dX0_offset_84 : decode cX0_offset 84 = .ok (.ldc2_w 87, 3) := by decide +kernel
theorem dX0_offset_87 : decode cX0_offset 87 = .ok (.land, 1) := by decide +kernel
theorem dX0_offset_88 : decode cX0_offset 88 = .ok (.lstore_n 3, 1) := by decide +kernel
theorem dX0_offset_89 : decode cX0_offset 89 = .ok (.lload_n 3, 1) := by decide +kernel
theorem dX0_offset_90 : decode cX0_offset 90 = .ok (.iload_n 1, 1) := by decide +kernel
theorem dX0_offset_91 : decode cX0_offset 91 = .ok (.bipush 12, 2) := by decide +kernel
theorem dX0_offset_93 : decode cX0_offset 93 = .ok (.invokestatic 79, 3) := by decide +kernel
theorem dX0_offset_96 : decode cX0_offset 96 = .ok (.ifCond .eq 7, 3) := by decide +kernel
theorem dX0_offset_99 : decode cX0_offset 99 = .ok (.iload_n 2, 1) := by decide +kernel
theorem dX0_offset_100 : decode cX0_offset 100 = .ok (.goto 4, 3) := by decide +kernel
theorem dX0_offset_103 : decode cX0_offset 103 = .ok (.iconst 0, 1) := by decide +kernel
theorem dX0_offset_104 : decode cX0_offset 104 = .ok (.lshl, 1) := by decide +kernel
theorem dX0_offset_105 : decode cX0_offset 105 = .ok (.lreturn, 1) := by decide +kernel
def F_X0_offset_c89 (σ : XS) (a0 : Int32) (w2 : Int32) (w3 : Int64) : Int64 := (if (F_X1_isOne a0 (12 : Int32)) = true then (j_lshl w3 w2) else (j_lshl w3 (0 : Int32)))
def F_X0_offset_c88 (σ : XS) (a0 : Int32) (w2 : Int32) (s0 : Int64) : Int64 := (F_X0_offset_c89 σ a0 w2 s0)
def F_X0_offset_c59 (σ : XS) (a0 : Int32) (w2 : Int32) (w3 : Int64) : Int64 := (if (F_X1_isOne a0 (13 : Int32)) = true then (F_X0_offset_c89 σ a0 w2 w3) else (if (F_X1_isOne a0 (15 : Int32)) = true then (F_X0_offset_c88 σ a0 w2 w3.toInt32.toInt64) else (F_X0_offset_c88 σ a0 w2 (w3 &&& (4294967295 : Int64)))))
def F_X0_offset_c5 (σ : XS) (a0 : Int32) (w2 : Int32) : Int64 := (if (F_X1_isOne a0 (24 : Int32)) = true then (j_lshl (F_X1_field a0 (10 : Int32) (12 : Int32)).toInt64 w2) else (if (F_X1_isOne a0 (21 : Int32)) = true then (F_X0_offset_c59 σ a0 w2 (F_X8_register σ (F_X1_field a0 (16 : Int32) (5 : Int32)))) else (F_X1_signedField a0 (12 : Int32) (9 : Int32))))
def F_X0_offset (σ : XS) (a0 : Int32) : Int64 := (F_X0_offset_c5 σ a0 (j_iushr a0 (30 : Int32)))
set_option maxHeartbeats 4000000 in
set_option maxRecDepth 100000 in
theorem c_X0_offset (l : Launch) (z : Cx) (r : Nat → Nat) (σ : XS) (a0 : Int32) (res : Int64) (hf : F_X0_offset σ a0 = res) : Met l yX0_offset (wsC yX0_offset cX0_offset 5 (some .long)) { frames := 2, cells := 0, slots := 0, locals := 42 } (rPc z (xW z r σ) [.ref (r 10), .int a0]) (gS (some (.long res))) 0 0 (fun _ => False) := by
  refine mk_r_l (own := RX0) (by decide) rfl _ (Nat.le_of_ble_eq_true rfl) (fun p e s m below meth c H locs Q ls S hK hP hl hend => ?_)
  have hx := S.1
  have hb := S.2.1
  have hown := S.2.2.2.1
  have hts := S.2.2.2.2
  have hl : lv_has ls 5 [(0, .ref (r 10)), (1, .int a0)] := hl
  have J_c89 : ∀ (w2 : Int32) (w3 : Int64) (ls : Array Slot), F_X0_offset_c89 σ a0 w2 w3 = res → lv_has ls 5 [(1, .int a0), (2, .int w2), (3, .long w3)] → W p l e { frames := 2, cells := 0, slots := 0, locals := 42 } s m ([.ref (r 10), .int a0] : List Value).toArray below meth c H locs 0 0 Q (F0 m 89 ls []) := by
    intro w2 w3 ls hf hl
    unfold F_X0_offset_c89 at hf
    refine lv_lload_n hx hb dX0_offset_89 rfl (lv_at hl 2 rfl) ?_
    refine lv_iload_n hx hb dX0_offset_90 rfl (lv_at hl 0 rfl) ?_
    refine lv_bipush (v := 12) hx hb dX0_offset_91 (by decide) ?_
    refine k_X1_isOne (a0 := a0) (a1 := (12 : Int32)) S tl_X0_79 ⟨Nat.le_of_ble_eq_true rfl, Nat.le_of_ble_eq_true rfl⟩ hl.1 (Nat.le_of_ble_eq_true rfl) dX0_offset_93 ?_
    refine gz_eq (tgt := 103) hx hb dX0_offset_96 (by decide) (fun c_96 => ?_) (fun c_96 => ?_)
    · rw [if_neg c_96] at hf
      refine lv_iconst (v := 0) hx hb dX0_offset_103 (by decide) ?_
      refine lv_lshl (v := (j_lshl w3 (0 : Int32))) hx hb dX0_offset_104 rfl ?_
      exact hend (j_lshl w3 (0 : Int32)) 105 ls hf dX0_offset_105
    · rw [if_pos c_96] at hf
      refine lv_iload_n hx hb dX0_offset_99 rfl (lv_at hl 1 rfl) ?_
      refine lv_goto (tgt := 104) hx hb dX0_offset_100 (by decide) ?_
      refine lv_lshl (v := (j_lshl w3 w2)) hx hb dX0_offset_104 rfl ?_
      exact hend (j_lshl w3 w2) 105 ls hf dX0_offset_105
  have J_c88 : ∀ (w2 : Int32) (s0 : Int64) (ls : Array Slot), F_X0_offset_c88 σ a0 w2 s0 = res → lv_has ls 5 [(1, .int a0), (2, .int w2)] → W p l e { frames := 2, cells := 0, slots := 0, locals := 42 } s m ([.ref (r 10), .int a0] : List Value).toArray below meth c H locs 0 0 Q (F0 m 88 ls [.long s0]) := by
    intro w2 s0 ls hf hl
    unfold F_X0_offset_c88 at hf
    refine lv_lstore_n (lv' := [(3, .long s0), (1, .int a0), (2, .int w2)]) hx hb dX0_offset_88 rfl hl (by decide) rfl (fun ls hl => ?_)
    exact J_c89 w2 s0 ls hf (lv_sub hl [1, 2, 0] rfl)
  have J_c59 : ∀ (w2 : Int32) (w3 : Int64) (ls : Array Slot), F_X0_offset_c59 σ a0 w2 w3 = res → lv_has ls 5 [(1, .int a0), (2, .int w2), (3, .long w3)] → W p l e { frames := 2, cells := 0, slots := 0, locals := 42 } s m ([.ref (r 10), .int a0] : List Value).toArray below meth c H locs 0 0 Q (F0 m 59 ls []) := by
    intro w2 w3 ls hf hl
    unfold F_X0_offset_c59 at hf
    refine lv_iload_n hx hb dX0_offset_59 rfl (lv_at hl 0 rfl) ?_
    refine lv_bipush (v := 13) hx hb dX0_offset_60 (by decide) ?_
    refine k_X1_isOne (a0 := a0) (a1 := (13 : Int32)) S tl_X0_79 ⟨Nat.le_of_ble_eq_true rfl, Nat.le_of_ble_eq_true rfl⟩ hl.1 (Nat.le_of_ble_eq_true rfl) dX0_offset_62 ?_
    refine gz_ne (tgt := 89) hx hb dX0_offset_65 (by decide) (fun c_65 => ?_) (fun c_65 => ?_)
    · rw [if_pos c_65] at hf
      exact J_c89 w2 w3 ls hf (lv_sub hl [0, 1, 2] rfl)
    · rw [if_neg c_65] at hf
      refine lv_iload_n hx hb dX0_offset_68 rfl (lv_at hl 0 rfl) ?_
      refine lv_bipush (v := 15) hx hb dX0_offset_69 (by decide) ?_
      refine k_X1_isOne (a0 := a0) (a1 := (15 : Int32)) S tl_X0_79 ⟨Nat.le_of_ble_eq_true rfl, Nat.le_of_ble_eq_true rfl⟩ hl.1 (Nat.le_of_ble_eq_true rfl) dX0_offset_71 ?_
      refine gz_eq (tgt := 83) hx hb dX0_offset_74 (by decide) (fun c_74 => ?_) (fun c_74 => ?_)
      · rw [if_neg c_74] at hf
        refine lv_lload_n hx hb dX0_offset_83 rfl (lv_at hl 2 rfl) ?_
        refine lv_ldc2 (v := 4294967295) hx hb hown (hts _ tk_X0_87) dX0_offset_84 ?_
        refine lv_land hx hb dX0_offset_87 ?_
        exact J_c88 w2 (w3 &&& (4294967295 : Int64)) ls hf (lv_sub hl [0, 1] rfl)
      · rw [if_pos c_74] at hf
        refine lv_lload_n hx hb dX0_offset_77 rfl (lv_at hl 2 rfl) ?_
        refine lv_l2i hx hb dX0_offset_78 rfl ?_
        refine lv_i2l hx hb dX0_offset_79 rfl ?_
        refine lv_goto (tgt := 88) hx hb dX0_offset_80 (by decide) ?_
        exact J_c88 w2 w3.toInt32.toInt64 ls hf (lv_sub hl [0, 1] rfl)
  have J_c5 : ∀ (w2 : Int32) (ls : Array Slot), F_X0_offset_c5 σ a0 w2 = res → lv_has ls 5 [(0, .ref (r 10)), (1, .int a0), (2, .int w2)] → W p l e { frames := 2, cells := 0, slots := 0, locals := 42 } s m ([.ref (r 10), .int a0] : List Value).toArray below meth c H locs 0 0 Q (F0 m 5 ls []) := by
    intro w2 ls hf hl
    unfold F_X0_offset_c5 at hf
    refine lv_iload_n hx hb dX0_offset_5 rfl (lv_at hl 1 rfl) ?_
    refine lv_bipush (v := 24) hx hb dX0_offset_6 (by decide) ?_
    refine k_X1_isOne (a0 := a0) (a1 := (24 : Int32)) S tl_X0_79 ⟨Nat.le_of_ble_eq_true rfl, Nat.le_of_ble_eq_true rfl⟩ hl.1 (Nat.le_of_ble_eq_true rfl) dX0_offset_8 ?_
    refine gz_eq (tgt := 26) hx hb dX0_offset_11 (by decide) (fun c_11 => ?_) (fun c_11 => ?_)
    · rw [if_neg c_11] at hf
      refine lv_iload_n hx hb dX0_offset_26 rfl (lv_at hl 1 rfl) ?_
      refine lv_bipush (v := 21) hx hb dX0_offset_27 (by decide) ?_
      refine k_X1_isOne (a0 := a0) (a1 := (21 : Int32)) S tl_X0_79 ⟨Nat.le_of_ble_eq_true rfl, Nat.le_of_ble_eq_true rfl⟩ hl.1 (Nat.le_of_ble_eq_true rfl) dX0_offset_29 ?_
      refine gz_ne (tgt := 44) hx hb dX0_offset_32 (by decide) (fun c_32 => ?_) (fun c_32 => ?_)
      · rw [if_pos c_32] at hf
        refine lv_aload_n hx hb dX0_offset_44 rfl (lv_at hl 0 rfl) ?_
        refine fg_X0_state S hK hP tf_X0_13 dX0_offset_45 ?_
        refine lv_iload_n hx hb dX0_offset_48 rfl (lv_at hl 1 rfl) ?_
        refine lv_bipush (v := 16) hx hb dX0_offset_49 (by decide) ?_
        refine lv_iconst (v := 5) hx hb dX0_offset_51 (by decide) ?_
        refine k_X1_field (a0 := a0) (a1 := (16 : Int32)) (a2 := (5 : Int32)) S tl_X0_21 ⟨Nat.le_of_ble_eq_true rfl, Nat.le_of_ble_eq_true rfl⟩ hl.1 (Nat.le_of_ble_eq_true rfl) dX0_offset_52 ?_
        refine k_X8_register (a0 := (F_X1_field a0 (16 : Int32) (5 : Int32))) S hK hP tl_X0_55 ⟨Nat.le_of_ble_eq_true rfl, Nat.le_of_ble_eq_true rfl⟩ hl.1 (Nat.le_of_ble_eq_true rfl) dX0_offset_55 ?_
        refine lv_lstore_n (lv' := [(3, .long (F_X8_register σ (F_X1_field a0 (16 : Int32) (5 : Int32)))), (0, .ref (r 10)), (1, .int a0), (2, .int w2)]) hx hb dX0_offset_58 rfl hl (by decide) rfl (fun ls hl => ?_)
        exact J_c59 w2 (F_X8_register σ (F_X1_field a0 (16 : Int32) (5 : Int32))) ls hf (lv_sub hl [2, 3, 0] rfl)
      · rw [if_neg c_32] at hf
        refine lv_iload_n hx hb dX0_offset_35 rfl (lv_at hl 1 rfl) ?_
        refine lv_bipush (v := 12) hx hb dX0_offset_36 (by decide) ?_
        refine lv_bipush (v := 9) hx hb dX0_offset_38 (by decide) ?_
        refine k_X1_signedField (a0 := a0) (a1 := (12 : Int32)) (a2 := (9 : Int32)) S tl_X0_83 ⟨Nat.le_of_ble_eq_true rfl, Nat.le_of_ble_eq_true rfl⟩ hl.1 (Nat.le_of_ble_eq_true rfl) dX0_offset_40 ?_
        exact hend (F_X1_signedField a0 (12 : Int32) (9 : Int32)) 43 ls hf dX0_offset_43
    · rw [if_pos c_11] at hf
      refine lv_iload_n hx hb dX0_offset_14 rfl (lv_at hl 1 rfl) ?_
      refine lv_bipush (v := 10) hx hb dX0_offset_15 (by decide) ?_
      refine lv_bipush (v := 12) hx hb dX0_offset_17 (by decide) ?_
      refine k_X1_field (a0 := a0) (a1 := (10 : Int32)) (a2 := (12 : Int32)) S tl_X0_21 ⟨Nat.le_of_ble_eq_true rfl, Nat.le_of_ble_eq_true rfl⟩ hl.1 (Nat.le_of_ble_eq_true rfl) dX0_offset_19 ?_
      refine lv_i2l hx hb dX0_offset_22 rfl ?_
      refine lv_iload_n hx hb dX0_offset_23 rfl (lv_at hl 2 rfl) ?_
      refine lv_lshl (v := (j_lshl (F_X1_field a0 (10 : Int32) (12 : Int32)).toInt64 w2)) hx hb dX0_offset_24 rfl ?_
      exact hend (j_lshl (F_X1_field a0 (10 : Int32) (12 : Int32)).toInt64 w2) 25 ls hf dX0_offset_25
  unfold F_X0_offset at hf
  refine lv_iload_n hx hb dX0_offset_0 rfl (lv_at hl 1 rfl) ?_
  refine lv_bipush (v := 30) hx hb dX0_offset_1 (by decide) ?_
  refine lv_iushr (v := (j_iushr a0 (30 : Int32))) hx hb dX0_offset_3 rfl ?_
  refine lv_istore_n (lv' := [(2, .int (j_iushr a0 (30 : Int32))), (0, .ref (r 10)), (1, .int a0)]) hx hb dX0_offset_4 rfl hl (by decide) rfl (fun ls hl => ?_)
  exact J_c5 (j_iushr a0 (30 : Int32)) ls hf (lv_sub hl [1, 2, 0] rfl)
theorem k_X0_offset {p : Program} {l : Launch} {e : Env} {R : Room} {s : State} {m : MethodId} {args : Array Value} {below : List Frame} {meth : Method} {c : Code} {H : Heap} {locs : List Loc} {Q : State → Prop} {cc : ByteArray} {pc : Nat} {ls : Array Slot} {rest : List Value} {own : String} {index nL : Nat} {z : Cx} {r : Nat → Nat} {σ : XS} {a0 : Int32} (S : CallFix p m c cc nL s args tbG own) (hK : va_K z.1 vwCl (cxT z) s) (hP : va_P z.1 vwCl (xW z r σ) H) (hl : Cond.methodLink own index yX0_offset ∈ tbG) (hR : 2 + 1 ≤ R.frames ∧ 8 + (5 + 11) + 42 ≤ R.locals) (hsz : ls.size = nL) (hcat : (rest.map fun v => v.category).sum ≤ 8) (hdg : decode cc pc = .ok (.invokevirtual index, 3)) (kk : W p l e R s m args below meth c H locs 0 0 Q (F0 m (pc + 3) ls (.long (F_X0_offset σ a0) :: rest))) : W p l e R s m args below meth c H locs 0 0 Q (F0 m pc ls (.int a0 :: .ref (r 10) :: rest)) :=
  kr (As := [.int a0]) (ov := some (.long (F_X0_offset σ a0))) (q0 := 10) (ci := 0) S hK hP (c_X0_offset l z r σ a0 _ rfl) ⟨tb_cB 1 S.2.2.2.2 tc_X0_offset ti_X0 hl rfl rfl (by decide +kernel) hR, S.2.2.2.2 _ tm_X0_offset, S.2.2.2.2 _ te_X0_offset⟩ rfl rfl rfl rfl hsz rfl hcat hdg kk

theorem dX8_level_0 : decode cX8_level 0 = .ok (.aload_n 0, 1) := by decide +kernel
theorem dX8_level_1 : decode cX8_level 1 = .ok (.getfield 9, 3) := by decide +kernel
theorem dX8_level_4 : decode cX8_level 4 = .ok (.bipush 43, 2) := by decide +kernel
theorem dX8_level_6 : decode cX8_level 6 = .ok (.laload, 1) := by decide +kernel
theorem dX8_level_7 : decode cX8_level 7 = .ok (.l2i, 1) := by decide +kernel
theorem dX8_level_8 : decode cX8_level 8 = .ok (.ireturn, 1) := by decide +kernel
def F_X8_level (σ : XS)  : Int32 := (xP σ (43 : Int32).toNatClampNeg).toInt32
set_option maxHeartbeats 4000000 in
set_option maxRecDepth 100000 in
theorem c_X8_level (l : Launch) (z : Cx) (r : Nat → Nat) (σ : XS) (res : Int32) (hf : F_X8_level σ = res) : Met l yX8_level (wsC yX8_level cX8_level 1 (some .int)) { frames := 0, cells := 0, slots := 0, locals := 0 } (rPc z (xW z r σ) [.ref (r 3)]) (gS (some (.int res))) 0 0 (fun _ => False) := by
  refine mk_r_i (own := RX8) (by decide) rfl _ (Nat.le_of_ble_eq_true rfl) (fun p e s m below meth c H locs Q ls S hK hP hl hend => ?_)
  have hx := S.1
  have hb := S.2.1
  have hown := S.2.2.2.1
  have hts := S.2.2.2.2
  have hl : lv_has ls 1 [(0, .ref (r 3))] := hl
  unfold F_X8_level at hf
  refine lv_aload_n hx hb dX8_level_0 rfl (lv_at hl 0 rfl) ?_
  refine fg_X8_parts S hK hP tf_X8_9 dX8_level_1 ?_
  refine lv_bipush (v := 43) hx hb dX8_level_4 (by decide) ?_
  refine al_xP S hK hP (show vp_in (43 : Int32) 46 by unfold vp_in; decide) dX8_level_6 ?_
  refine lv_l2i hx hb dX8_level_7 rfl ?_
  exact hend (xP σ (43 : Int32).toNatClampNeg).toInt32 8 ls hf dX8_level_8
theorem k_X8_level {p : Program} {l : Launch} {e : Env} {R : Room} {s : State} {m : MethodId} {args : Array Value} {below : List Frame} {meth : Method} {c : Code} {H : Heap} {locs : List Loc} {Q : State → Prop} {cc : ByteArray} {pc : Nat} {ls : Array Slot} {rest : List Value} {own : String} {index nL : Nat} {z : Cx} {r : Nat → Nat} {σ : XS} (S : CallFix p m c cc nL s args tbG own) (hK : va_K z.1 vwCl (cxT z) s) (hP : va_P z.1 vwCl (xW z r σ) H) (hl : Cond.methodLink own index yX8_level ∈ tbG) (hR : 0 + 1 ≤ R.frames ∧ 8 + (1 + 11) + 0 ≤ R.locals) (hsz : ls.size = nL) (hcat : (rest.map fun v => v.category).sum ≤ 8) (hdg : decode cc pc = .ok (.invokevirtual index, 3)) (kk : W p l e R s m args below meth c H locs 0 0 Q (F0 m (pc + 3) ls (.int (F_X8_level σ) :: rest))) : W p l e R s m args below meth c H locs 0 0 Q (F0 m pc ls (.ref (r 3) :: rest)) :=
  kr (As := []) (ov := some (.int (F_X8_level σ))) (q0 := 3) (ci := 7) S hK hP (c_X8_level l z r σ _ rfl) ⟨tb_cB 0 S.2.2.2.2 tc_X8_level ti_X8 hl rfl rfl (by decide +kernel) hR, S.2.2.2.2 _ tm_X8_level, S.2.2.2.2 _ te_X8_level⟩ rfl rfl rfl rfl hsz rfl hcat hdg kk

theorem dX4_holds_0 : decode cX4_holds 0 = .ok (.lload_n 1, 1) := by decide +kernel
theorem dX4_holds_1 : decode cX4_holds 1 = .ok (.lconst 0, 1) := by decide +kernel
theorem dX4_holds_2 : decode cX4_holds 2 = .ok (.lcmp, 1) := by decide +kernel
theorem dX4_holds_3 : decode cX4_holds 3 = .ok (.ifCond .lt 17, 3) := by decide +kernel
theorem dX4_holds_6 : decode cX4_holds 6 = .ok (.lload_n 1, 1) := by decide +kernel
theorem dX4_holds_7 : decode cX4_holds 7 = .ok (.ldc 13, 2) := by decide +kernel
theorem dX4_holds_9 : decode cX4_holds 9 = .ok (.iload_n 3, 1) := by decide +kernel
theorem dX4_holds_10 : decode cX4_holds 10 = .ok (.isub, 1) := by decide +kernel
theorem dX4_holds_11 : decode cX4_holds 11 = .ok (.i2l, 1) := by decide +kernel
theorem dX4_holds_12 : decode cX4_holds 12 = .ok (.lcmp, 1) := by decide +kernel
theorem dX4_holds_13 : decode cX4_holds 13 = .ok (.ifCond .gt 7, 3) := by decide +kernel
theorem dX4_holds_16 : decode cX4_holds 16 = .ok (.iconst 1, 1) := by decide +kernel
theorem dX4_holds_17 : decode cX4_holds 17 = .ok (.goto 4, 3) := by decide +kernel
theorem dX4_holds_20 : decode cX4_holds 20 = .ok (.iconst 0, 1) := by decide +kernel
theorem dX4_holds_21 : decode cX4_holds 21 = .ok (.ireturn, 1) := by decide +kernel
def F_X4_holds (σ : XS) (a0 : Int64) (a1 : Int32) : Bool := (if a0 < (0 : Int64) then false else (if ((65536 : Int32) - a1).toInt64 < a0 then false else true))
set_option maxHeartbeats 4000000 in
set_option maxRecDepth 100000 in
theorem c_X4_holds (l : Launch) (z : Cx) (r : Nat → Nat) (σ : XS) (a0 : Int64) (a1 : Int32) (res : Bool) (hf : F_X4_holds σ a0 a1 = res) : Met l yX4_holds (wsC yX4_holds cX4_holds 4 (some .boolean)) { frames := 0, cells := 0, slots := 0, locals := 0 } (rPc z (xW z r σ) [.ref (r 1), .long a0, .int a1]) (gS (some (.int (zB res)))) 0 0 (fun _ => False) := by
  refine mk_r_z (own := RX4) (by decide) rfl _ (Nat.le_of_ble_eq_true rfl) (fun p e s m below meth c H locs Q ls S hK hP hl hend => ?_)
  have hx := S.1
  have hb := S.2.1
  have hown := S.2.2.2.1
  have hts := S.2.2.2.2
  have hl : lv_has ls 4 [(0, .ref (r 1)), (1, .long a0), (3, .int a1)] := hl
  unfold F_X4_holds at hf
  refine lv_lload_n hx hb dX4_holds_0 rfl (lv_at hl 1 rfl) ?_
  refine lv_lconst (v := 0) hx hb dX4_holds_1 (by decide) ?_
  refine gl_lt (tgt := 20) hx hb dX4_holds_2 dX4_holds_3 (by decide) (fun c_2 => ?_) (fun c_2 => ?_)
  · rw [if_pos c_2] at hf
    refine lv_iconst (v := 0) hx hb dX4_holds_20 (by decide) ?_
    exact hend false 21 ls hf dX4_holds_21
  · rw [if_neg c_2] at hf
    refine lv_lload_n hx hb dX4_holds_6 rfl (lv_at hl 1 rfl) ?_
    refine lv_ldc (v := 65536) hx hb hown (hts _ tk_X4_13) dX4_holds_7 ?_
    refine lv_iload_n hx hb dX4_holds_9 rfl (lv_at hl 2 rfl) ?_
    refine lv_isub hx hb dX4_holds_10 ?_
    refine lv_i2l hx hb dX4_holds_11 rfl ?_
    refine gl_gt (tgt := 20) hx hb dX4_holds_12 dX4_holds_13 (by decide) (fun c_12 => ?_) (fun c_12 => ?_)
    · rw [if_pos c_12] at hf
      refine lv_iconst (v := 0) hx hb dX4_holds_20 (by decide) ?_
      exact hend false 21 ls hf dX4_holds_21
    · rw [if_neg c_12] at hf
      refine lv_iconst (v := 1) hx hb dX4_holds_16 (by decide) ?_
      refine lv_goto (tgt := 21) hx hb dX4_holds_17 (by decide) ?_
      exact hend true 21 ls hf dX4_holds_21
theorem k_X4_holds {p : Program} {l : Launch} {e : Env} {R : Room} {s : State} {m : MethodId} {args : Array Value} {below : List Frame} {meth : Method} {c : Code} {H : Heap} {locs : List Loc} {Q : State → Prop} {cc : ByteArray} {pc : Nat} {ls : Array Slot} {rest : List Value} {own : String} {index nL : Nat} {z : Cx} {r : Nat → Nat} {σ : XS} {a0 : Int64} {a1 : Int32} (S : CallFix p m c cc nL s args tbG own) (hK : va_K z.1 vwCl (cxT z) s) (hP : va_P z.1 vwCl (xW z r σ) H) (hl : Cond.methodLink own index yX4_holds ∈ tbG) (hR : 0 + 1 ≤ R.frames ∧ 8 + (4 + 11) + 0 ≤ R.locals) (hsz : ls.size = nL) (hcat : (rest.map fun v => v.category).sum ≤ 8) (hdg : decode cc pc = .ok (.invokevirtual index, 3)) (kk : W p l e R s m args below meth c H locs 0 0 Q (F0 m (pc + 3) ls (.int (zB (F_X4_holds σ a0 a1)) :: rest))) : W p l e R s m args below meth c H locs 0 0 Q (F0 m pc ls (.int a1 :: .long a0 :: .ref (r 1) :: rest)) :=
  kr (As := [.long a0, .int a1]) (ov := some (.int (zB (F_X4_holds σ a0 a1)))) (q0 := 1) (ci := 3) S hK hP (c_X4_holds l z r σ a0 a1 _ rfl) ⟨tb_cB 2 S.2.2.2.2 tc_X4_holds ti_X4 hl rfl rfl (by decide +kernel) hR, S.2.2.2.2 _ tm_X4_holds, S.2.2.2.2 _ te_X4_holds⟩ rfl rfl rfl rfl hsz rfl hcat hdg kk

theorem dX1_ones_0 : decode cX1_ones 0 = .ok (.iload_n 0, 1) := by decide +kernel
theorem dX1_ones_1 : decode cX1_ones 1 = .ok (.bipush 64, 2) := by decide +kernel
theorem dX1_ones_3 : decode cX1_ones 3 = .ok (.if_icmp .lt 9, 3) := by decide +kernel
theorem dX1_ones_6 : decode cX1_ones 6 = .ok (.ldc2_w 11, 3) := by decide +kernel
theorem dX1_ones_9 : decode cX1_ones 9 = .ok (.goto 8, 3) := by decide +kernel
theorem dX1_ones_12 : decode cX1_ones 12 = .ok (.lconst 1, 1) := by decide +kernel
theorem dX1_ones_13 : decode cX1_ones 13 = .ok (.iload_n 0, 1) := by decide +kernel
theorem dX1_ones_14 : decode cX1_ones 14 = .ok (.lshl, 1) := by decide +kernel
theorem dX1_ones_15 : decode cX1_ones 15 = .ok (.lconst 1, 1) := by decide +kernel
theorem dX1_ones_16 : decode cX1_ones 16 = .ok (.lsub, 1) := by decide +kernel
theorem dX1_ones_17 : decode cX1_ones 17 = .ok (.lreturn, 1) := by decide +kernel
def F_X1_ones (a0 : Int32) : Int64 := (if a0 < (64 : Int32) then ((j_lshl (1 : Int64) a0) - (1 : Int64)) else (-1 : Int64))
set_option maxHeartbeats 4000000 in
set_option maxRecDepth 100000 in
theorem c_X1_ones (l : Launch) (a0 : Int32) (res : Int64) (hf : F_X1_ones a0 = res) : Met l yX1_ones (wsC yX1_ones cX1_ones 1 (some .long)) { frames := 0, cells := 0, slots := 0, locals := 0 } (fun v _ => v = ([.int a0] : List Value).toArray) (gS (some (.long res))) 0 0 (fun _ => False) := by
  refine mk_s_l (own := RX1) (by decide) rfl _ (Nat.le_of_ble_eq_true rfl) (fun p e s m below meth c H locs Q ls S hl hend => ?_)
  have hx := S.1
  have hb := S.2.1
  have hown := S.2.2.2.1
  have hts := S.2.2.2.2
  have hl : lv_has ls 1 [(0, .int a0)] := hl
  unfold F_X1_ones at hf
  refine lv_iload_n hx hb dX1_ones_0 rfl (lv_at hl 0 rfl) ?_
  refine lv_bipush (v := 64) hx hb dX1_ones_1 (by decide) ?_
  refine lv_icmp_lt (tgt := 12) hx hb dX1_ones_3 (by decide) (fun c_3 => ?_) (fun c_3 => ?_)
  · rw [if_pos c_3] at hf
    refine lv_lconst (v := 1) hx hb dX1_ones_12 (by decide) ?_
    refine lv_iload_n hx hb dX1_ones_13 rfl (lv_at hl 0 rfl) ?_
    refine lv_lshl (v := (j_lshl (1 : Int64) a0)) hx hb dX1_ones_14 rfl ?_
    refine lv_lconst (v := 1) hx hb dX1_ones_15 (by decide) ?_
    refine lv_lsub hx hb dX1_ones_16 ?_
    exact hend ((j_lshl (1 : Int64) a0) - (1 : Int64)) 17 ls hf dX1_ones_17
  · rw [if_neg c_3] at hf
    refine lv_ldc2 (v := -1) hx hb hown (hts _ tk_X1_11) dX1_ones_6 ?_
    refine lv_goto (tgt := 17) hx hb dX1_ones_9 (by decide) ?_
    exact hend (-1 : Int64) 17 ls hf dX1_ones_17
theorem k_X1_ones {p : Program} {l : Launch} {e : Env} {R : Room} {s : State} {m : MethodId} {args : Array Value} {below : List Frame} {meth : Method} {c : Code} {H : Heap} {locs : List Loc} {Q : State → Prop} {cc : ByteArray} {pc : Nat} {ls : Array Slot} {rest : List Value} {own : String} {index nL : Nat} {a0 : Int32} (S : CallFix p m c cc nL s args tbG own) (hl : Cond.methodLink own index yX1_ones ∈ tbG) (hR : 0 + 1 ≤ R.frames ∧ 8 + (1 + 11) + 0 ≤ R.locals) (hsz : ls.size = nL) (hcat : (rest.map fun v => v.category).sum ≤ 8) (hdg : decode cc pc = .ok (.invokestatic index, 3)) (kk : W p l e R s m args below meth c H locs 0 0 Q (F0 m (pc + 3) ls (.long (F_X1_ones a0) :: rest))) : W p l e R s m args below meth c H locs 0 0 Q (F0 m pc ls (.int a0 :: rest)) :=
  ks (As := [.int a0]) (ov := some (.long (F_X1_ones a0))) S (c_X1_ones l a0 _ rfl) ⟨tb_cB 1 S.2.2.2.2 tc_X1_ones ti_X1 hl rfl rfl (by decide +kernel) hR, S.2.2.2.2 _ ts_X1_ones⟩ rfl hsz rfl hcat hdg kk

theorem dX4_read_0 : decode cX4_read 0 = .ok (.aload_n 0, 1) := by decide +kernel
theorem dX4_read_1 : decode cX4_read 1 = .ok (.lload_n 1, 1) := by decide +kernel
theorem dX4_read_2 : decode cX4_read 2 = .ok (.iload_n 3, 1) := by decide +kernel
theorem dX4_read_3 : decode cX4_read 3 = .ok (.invokevirtual 14, 3) := by decide +kernel
theorem dX4_read_6 : decode cX4_read 6 = .ok (.ifCond .ne 5, 3) := by decide +kernel
theorem dX4_read_9 : decode cX4_read 9 = .ok (.lconst 0, 1) := by decide +kernel
theorem dX4_read_10 : decode cX4_read 10 = .ok (.lreturn, 1) := by decide +kernel
theorem dX4_read_11 : decode cX4_read 11 = .ok (.lload_n 1, 1) := by decide +kernel
theorem dX4_read_12 : decode cX4_read 12 = .ok (.ldc2_w 18, 3) := by decide +kernel
theorem dX4_read_15 : decode cX4_read 15 = .ok (.land, 1) := by decide +kernel
theorem dX4_read_16 : decode cX4_read 16 = .ok (.l2i, 1) := by decide +kernel
theorem dX4_read_17 : decode cX4_read 17 = .ok (.bipush 8, 2) := by decide +kernel
theorem dX4_read_19 : decode cX4_read 19 = .ok (.imul, 1) := by decide +kernel
theorem dX4_read_20 : decode cX4_read 20 = .ok (.istore 4, 2) := by decide +kernel
theorem dX4_read_22 : decode cX4_read 22 = .ok (.aload_n 0, 1) := by decide +kernel
theorem dX4_read_23 : decode cX4_read 23 = .ok (.getfield 9, 3) := by decide +kernel
theorem dX4_read_26 : decode cX4_read 26 = .ok (.lload_n 1, 1) := by decide +kernel
theorem dX4_read_27 : decode cX4_read 27 = .ok (.iconst 3, 1) := by decide +kernel
theorem dX4_read_28 : decode cX4_read 28 = .ok (.lushr, 1) := by decide +kernel
theorem dX4_read_29 : decode cX4_read 29 = .ok (.l2i, 1) := by decide +kernel
theorem dX4_read_30 : decode cX4_read 30 = .ok (.laload, 1) := by decide +kernel
theorem dX4_read_31 : decode cX4_read 31 = .ok (.iload 4, 2) := by decide +kernel
theorem dX4_read_33 : decode cX4_read 33 = .ok (.lushr, 1) := by decide +kernel
theorem dX4_read_34 : decode cX4_read 34 = .ok (.iload_n 3, 1) := by decide +kernel
theorem dX4_read_35 : decode cX4_read 35 = .ok (.bipush 8, 2) := by decide +kernel
theorem dX4_read_37 : decode cX4_read 37 = .ok (.imul, 1) := by decide +kernel
theorem dX4_read_38 : decode cX4_read 38 = .ok (.invokestatic 20, 3) := by decide +kernel
theorem dX4_read_41 : decode cX4_read 41 = .ok (.land, 1) := by decide +kernel
theorem dX4_read_42 : decode cX4_read 42 = .ok (.lreturn, 1) := by decide +kernel
def F_X4_read (σ : XS) (a0 : Int64) (a1 : Int32) : Option (Int64) := (if (F_X4_holds σ a0 a1) = true then (if ((j_lushr a0 (3 : Int32)).toInt32 < 0 ∨ 8192 ≤ (j_lushr a0 (3 : Int32)).toInt32.toNatClampNeg) then none else some (((j_lushr (xC σ (j_lushr a0 (3 : Int32)).toInt32.toNatClampNeg) ((a0 &&& (7 : Int64)).toInt32 * (8 : Int32))) &&& (F_X1_ones (a1 * (8 : Int32)))))) else some ((0 : Int64)))
set_option maxHeartbeats 4000000 in
set_option maxRecDepth 100000 in
theorem c_X4_read (l : Launch) (z : Cx) (r : Nat → Nat) (σ : XS) (a0 : Int64) (a1 : Int32) (res : Int64) (hf : F_X4_read σ a0 a1 = some res) : Met l yX4_read (wsC yX4_read cX4_read 5 (some .long)) { frames := 1, cells := 0, slots := 0, locals := 23 } (rPc z (xW z r σ) [.ref (r 1), .long a0, .int a1]) (gS (some (.long res))) 0 0 (fun _ => False) := by
  refine mk_r_l (own := RX4) (by decide) rfl _ (Nat.le_of_ble_eq_true rfl) (fun p e s m below meth c H locs Q ls S hK hP hl hend => ?_)
  have hx := S.1
  have hb := S.2.1
  have hown := S.2.2.2.1
  have hts := S.2.2.2.2
  have hl : lv_has ls 5 [(0, .ref (r 1)), (1, .long a0), (3, .int a1)] := hl
  unfold F_X4_read at hf
  refine lv_aload_n hx hb dX4_read_0 rfl (lv_at hl 0 rfl) ?_
  refine lv_lload_n hx hb dX4_read_1 rfl (lv_at hl 1 rfl) ?_
  refine lv_iload_n hx hb dX4_read_2 rfl (lv_at hl 2 rfl) ?_
  refine k_X4_holds (a0 := a0) (a1 := a1) S hK hP tl_X4_14 ⟨Nat.le_of_ble_eq_true rfl, Nat.le_of_ble_eq_true rfl⟩ hl.1 (Nat.le_of_ble_eq_true rfl) dX4_read_3 ?_
  refine gz_ne (tgt := 11) hx hb dX4_read_6 (by decide) (fun c_6 => ?_) (fun c_6 => ?_)
  · rw [if_pos c_6] at hf
    refine lv_lload_n hx hb dX4_read_11 rfl (lv_at hl 1 rfl) ?_
    refine lv_ldc2 (v := 7) hx hb hown (hts _ tk_X4_18) dX4_read_12 ?_
    refine lv_land hx hb dX4_read_15 ?_
    refine lv_l2i hx hb dX4_read_16 rfl ?_
    refine lv_bipush (v := 8) hx hb dX4_read_17 (by decide) ?_
    refine lv_imul hx hb dX4_read_19 ?_
    refine lv_istore (lv' := [(4, .int ((a0 &&& (7 : Int64)).toInt32 * (8 : Int32))), (0, .ref (r 1)), (1, .long a0), (3, .int a1)]) hx hb dX4_read_20 hl (by decide) rfl (fun ls hl => ?_)
    refine lv_aload_n hx hb dX4_read_22 rfl (lv_at hl 1 rfl) ?_
    refine fg_X4_cells S hK hP tf_X4_9 dX4_read_23 ?_
    refine lv_lload_n hx hb dX4_read_26 rfl (lv_at hl 2 rfl) ?_
    refine lv_iconst (v := 3) hx hb dX4_read_27 (by decide) ?_
    refine lv_lushr (v := (j_lushr a0 (3 : Int32))) hx hb dX4_read_28 rfl ?_
    refine lv_l2i hx hb dX4_read_29 rfl ?_
    by_cases c_30 : ((j_lushr a0 (3 : Int32)).toInt32 < 0 ∨ 8192 ≤ (j_lushr a0 (3 : Int32)).toInt32.toNatClampNeg)
    · rw [if_pos c_30] at hf
      cases hf
    rw [if_neg c_30] at hf
    refine al_xC S hK hP c_30 dX4_read_30 ?_
    refine lv_iload hx hb dX4_read_31 (lv_at hl 0 rfl) ?_
    refine lv_lushr (v := (j_lushr (xC σ (j_lushr a0 (3 : Int32)).toInt32.toNatClampNeg) ((a0 &&& (7 : Int64)).toInt32 * (8 : Int32)))) hx hb dX4_read_33 rfl ?_
    refine lv_iload_n hx hb dX4_read_34 rfl (lv_at hl 3 rfl) ?_
    refine lv_bipush (v := 8) hx hb dX4_read_35 (by decide) ?_
    refine lv_imul hx hb dX4_read_37 ?_
    refine k_X1_ones (a0 := (a1 * (8 : Int32))) S tl_X4_20 ⟨Nat.le_of_ble_eq_true rfl, Nat.le_of_ble_eq_true rfl⟩ hl.1 (Nat.le_of_ble_eq_true rfl) dX4_read_38 ?_
    refine lv_land hx hb dX4_read_41 ?_
    exact hend ((j_lushr (xC σ (j_lushr a0 (3 : Int32)).toInt32.toNatClampNeg) ((a0 &&& (7 : Int64)).toInt32 * (8 : Int32))) &&& (F_X1_ones (a1 * (8 : Int32)))) 42 ls (Option.some.inj hf) dX4_read_42
  · rw [if_neg c_6] at hf
    refine lv_lconst (v := 0) hx hb dX4_read_9 (by decide) ?_
    exact hend (0 : Int64) 10 ls (Option.some.inj hf) dX4_read_10
theorem k_X4_read {p : Program} {l : Launch} {e : Env} {R : Room} {s : State} {m : MethodId} {args : Array Value} {below : List Frame} {meth : Method} {c : Code} {H : Heap} {locs : List Loc} {Q : State → Prop} {cc : ByteArray} {pc : Nat} {ls : Array Slot} {rest : List Value} {own : String} {index nL : Nat} {z : Cx} {r : Nat → Nat} {σ : XS} {a0 : Int64} {a1 : Int32} {res : Int64} (hres : F_X4_read σ a0 a1 = some res) (S : CallFix p m c cc nL s args tbG own) (hK : va_K z.1 vwCl (cxT z) s) (hP : va_P z.1 vwCl (xW z r σ) H) (hl : Cond.methodLink own index yX4_read ∈ tbG) (hR : 1 + 1 ≤ R.frames ∧ 8 + (5 + 11) + 23 ≤ R.locals) (hsz : ls.size = nL) (hcat : (rest.map fun v => v.category).sum ≤ 8) (hdg : decode cc pc = .ok (.invokevirtual index, 3)) (kk : W p l e R s m args below meth c H locs 0 0 Q (F0 m (pc + 3) ls (.long res :: rest))) : W p l e R s m args below meth c H locs 0 0 Q (F0 m pc ls (.int a1 :: .long a0 :: .ref (r 1) :: rest)) :=
  kr (As := [.long a0, .int a1]) (ov := some (.long res)) (q0 := 1) (ci := 3) S hK hP (c_X4_read l z r σ a0 a1 _ hres) ⟨tb_cB 2 S.2.2.2.2 tc_X4_read ti_X4 hl rfl rfl (by decide +kernel) hR, S.2.2.2.2 _ tm_X4_read, S.2.2.2.2 _ te_X4_read⟩ rfl rfl rfl rfl hsz rfl hcat hdg kk

theorem dX10_permits_0 : decode cX10_permits 0 = .ok (.lload_n 0, 1) := by decide +kernel
theorem dX10_permits_1 : decode cX10_permits 1 = .ok (.bipush 6, 2) := by decide +kernel
theorem dX10_permits_3 : decode cX10_permits 3 = .ok (.lushr, 1) := by decide +kernel
theorem dX10_permits_4 : decode cX10_permits 4 = .ok (.lconst 1, 1) := by decide +kernel
theorem dX10_permits_5 : decode cX10_permits 5 = .ok (.land, 1) := by decide +kernel
theorem dX10_permits_6 : decode cX10_permits 6 = .ok (.lconst 0, 1) := by decide +kernel
theorem dX10_permits_7 : decode cX10_permits 7 = .ok (.lcmp, 1) := by decide +kernel
theorem dX10_permits_8 : decode cX10_permits 8 = .ok (.ifCond .eq 7, 3) := by decide +kernel
theorem dX10_permits_11 : decode cX10_permits 11 = .ok (.iconst 1, 1) := by decide +kernel
theorem dX10_permits_12 : decode cX10_permits 12 = .ok (.goto 4, 3) := by decide +kernel
theorem dX10_permits_15 : decode cX10_permits 15 = .ok (.iconst 0, 1) := by decide +kernel
theorem dX10_permits_16 : decode cX10_permits 16 = .ok (.istore 4, 2) := by decide +kernel
theorem dX10_permits_18 : decode cX10_permits 18 = .ok (.lload_n 0, 1) := by decide +kernel
theorem dX10_permits_19 : decode cX10_permits 19 = .ok (.bipush 7, 2) := by decide +kernel
theorem dX10_permits_21 : decode cX10_permits 21 = .ok (.lushr, 1) := by decide +kernel
theorem dX10_permits_22 : decode cX10_permits 22 = .ok (.lconst 1, 1) := by decide +kernel
theorem dX10_permits_23 : decode cX10_permits 23 = .ok (.land, 1) := by decide +kernel
theorem dX10_permits_24 : decode cX10_permits 24 = .ok (.lconst 0, 1) := by decide +kernel
theorem dX10_permits_25 : decode cX10_permits 25 = .ok (.lcmp, 1) := by decide +kernel
theorem dX10_permits_26 : decode cX10_permits 26 = .ok (.ifCond .ne 7, 3) := by decide +kernel
theorem dX10_permits_29 : decode cX10_permits 29 = .ok (.iconst 1, 1) := by decide +kernel
theorem dX10_permits_30 : decode cX10_permits 30 = .ok (.goto 4, 3) := by decide +kernel
theorem dX10_permits_33 : decode cX10_permits 33 = .ok (.iconst 0, 1) := by decide +kernel
theorem dX10_permits_34 : decode cX10_permits 34 = .ok (.istore 5, 2) := by decide +kernel
theorem dX10_permits_36 : decode cX10_permits 36 = .ok (.iload_n 2, 1) := by decide +kernel
theorem dX10_permits_37 : decode cX10_permits 37 = .ok (.iconst 2, 1) := by decide +kernel
theorem dX10_permits_38 : decode cX10_permits 38 = .ok (.if_icmp .ne 53, 3) := by decide +kernel
theorem dX10_permits_41 : decode cX10_permits 41 = .ok (.iload_n 3, 1) := by decide +kernel
theorem dX10_permits_42 : decode cX10_permits 42 = .ok (.ifCond .ne 22, 3) := by decide +kernel
theorem dX10_permits_45 : decode cX10_permits 45 = .ok (.lload_n 0, 1) := by decide +kernel
theorem dX10_permits_46 : decode cX10_permits 46 = .ok (.bipush 54, 2) := by decide +kernel
theorem dX10_permits_48 : decode cX10_permits 48 = .ok (.lushr, 1) := by decide +kernel
theorem dX10_permits_49 : decode cX10_permits 49 = .ok (.lconst 1, 1) := by decide +kernel
theorem dX10_permits_50 : decode cX10_permits 50 = .ok (.land, 1) := by decide +kernel
theorem dX10_permits_51 : decode cX10_permits 51 = .ok (.lconst 0, 1) := by decide +kernel
theorem dX10_permits_52 : decode cX10_permits 52 = .ok (.lcmp, 1) := by decide +kernel
theorem dX10_permits_53 : decode cX10_permits 53 = .ok (.ifCond .ne 7, 3) := by decide +kernel
theorem dX10_permits_56 : decode cX10_permits 56 = .ok (.iconst 1, 1) := by decide +kernel
theorem dX10_permits_57 : decode cX10_permits 57 = .ok (.goto 33, 3) := by decide +kernel
theorem dX10_permits_60 : decode cX10_permits 60 = .ok (.iconst 0, 1) := by decide +kernel
theorem dX10_permits_61 : decode cX10_permits 61 = .ok (.goto 29, 3) := by decide +kernel
theorem dX10_permits_64 : decode cX10_permits 64 = .ok (.lload_n 0, 1) := by decide +kernel
theorem dX10_permits_65 : decode cX10_permits 65 = .ok (.bipush 53, 2) := by decide +kernel
theorem dX10_permits_67 : decode cX10_permits 67 = .ok (.lushr, 1) := by decide +kernel
theorem dX10_permits_68 : decode cX10_permits 68 = .ok (.lconst 1, 1) := by decide +kernel
theorem dX10_permits_69 : decode cX10_permits 69 = .ok (.land, 1) := by decide +kernel
theorem dX10_permits_70 : decode cX10_permits 70 = .ok (.lconst 0, 1) := by decide +kernel
theorem dX10_permits_71 : decode cX10_permits 71 = .ok (.lcmp, 1) := by decide +kernel
theorem dX10_permits_72 : decode cX10_permits 72 = .ok (.ifCond .ne 17, 3) := by decide +kernel
theorem dX10_permits_75 : decode cX10_permits 75 = .ok (.iload 4, 2) := by decide +kernel
theorem dX10_permits_77 : decode cX10_permits 77 = .ok (.ifCond .eq 8, 3) := by decide +kernel
theorem dX10_permits_80 : decode cX10_permits 80 = .ok (.iload 5, 2) := by decide +kernel
theorem dX10_permits_82 : decode cX10_permits 82 = .ok (.ifCond .ne 7, 3) := by decide +kernel
theorem dX10_permits_85 : decode cX10_permits 85 = .ok (.iconst 1, 1) := by decide +kernel
theorem dX10_permits_86 : decode cX10_permits 86 = .ok (.goto 4, 3) := by decide +kernel
theorem dX10_permits_89 : decode cX10_permits 89 = .ok (.iconst 0, 1) := by decide +kernel
theorem dX10_permits_90 : decode cX10_permits 90 = .ok (.ireturn, 1) := by decide +kernel
theorem dX10_permits_91 : decode cX10_permits 91 = .ok (.iload_n 3, 1) := by decide +kernel
theorem dX10_permits_92 : decode cX10_permits 92 = .ok (.iconst 1, 1) := by decide +kernel
theorem dX10_permits_93 : decode cX10_permits 93 = .ok (.if_icmp .eq 8, 3) := by decide +kernel
theorem dX10_permits_96 : decode cX10_permits 96 = .ok (.iload 4, 2) := by decide +kernel
theorem dX10_permits_98 : decode cX10_permits 98 = .ok (.ifCond .eq 16, 3) := by decide +kernel
theorem dX10_permits_101 : decode cX10_permits 101 = .ok (.iload_n 2, 1) := by decide +kernel
theorem dX10_permits_102 : decode cX10_permits 102 = .ok (.ifCond .eq 8, 3) := by decide +kernel
theorem dX10_permits_105 : decode cX10_permits 105 = .ok (.iload 5, 2) := by decide +kernel
theorem dX10_permits_107 : decode cX10_permits 107 = .ok (.ifCond .eq 7, 3) := by decide +kernel
theorem dX10_permits_110 : decode cX10_permits 110 = .ok (.iconst 1, 1) := by decide +kernel
theorem dX10_permits_111 : decode cX10_permits 111 = .ok (.goto 4, 3) := by decide +kernel
theorem dX10_permits_114 : decode cX10_permits 114 = .ok (.iconst 0, 1) := by decide +kernel
theorem dX10_permits_115 : decode cX10_permits 115 = .ok (.ireturn, 1) := by decide +kernel
def F_X10_permits_c101 (a0 : Int64) (a1 : Int32) (a2 : Int32) (w5 : Bool) : Bool := (if a1 = 0 then true else (if w5 = true then true else false))
def F_X10_permits_c34 (a0 : Int64) (a1 : Int32) (a2 : Int32) (w4 : Bool) (s0 : Bool) : Bool := (if a1 = (2 : Int32) then (if a2 = 0 then (if ((j_lushr a0 (54 : Int32)) &&& (1 : Int64)) = (0 : Int64) then true else false) else (if ((j_lushr a0 (53 : Int32)) &&& (1 : Int64)) = (0 : Int64) then (if w4 = true then (if s0 = true then false else true) else true) else false)) else (if a2 = (1 : Int32) then (F_X10_permits_c101 a0 a1 a2 s0) else (if w4 = true then (F_X10_permits_c101 a0 a1 a2 s0) else false)))
def F_X10_permits_c16 (a0 : Int64) (a1 : Int32) (a2 : Int32) (s0 : Bool) : Bool := (if ((j_lushr a0 (7 : Int32)) &&& (1 : Int64)) = (0 : Int64) then (F_X10_permits_c34 a0 a1 a2 s0 true) else (F_X10_permits_c34 a0 a1 a2 s0 false))
def F_X10_permits (a0 : Int64) (a1 : Int32) (a2 : Int32) : Bool := (if ((j_lushr a0 (6 : Int32)) &&& (1 : Int64)) = (0 : Int64) then (F_X10_permits_c16 a0 a1 a2 false) else (F_X10_permits_c16 a0 a1 a2 true))
set_option maxHeartbeats 4000000 in
set_option maxRecDepth 100000 in
theorem c_X10_permits (l : Launch) (a0 : Int64) (a1 : Int32) (a2 : Int32) (res : Bool) (hf : F_X10_permits a0 a1 a2 = res) : Met l yX10_permits (wsC yX10_permits cX10_permits 6 (some .boolean)) { frames := 0, cells := 0, slots := 0, locals := 0 } (fun v _ => v = ([.long a0, .int a1, .int a2] : List Value).toArray) (gS (some (.int (zB res)))) 0 0 (fun _ => False) := by
  refine mk_s_z (own := RX10) (by decide) rfl _ (Nat.le_of_ble_eq_true rfl) (fun p e s m below meth c H locs Q ls S hl hend => ?_)
  have hx := S.1
  have hb := S.2.1
  have hown := S.2.2.2.1
  have hts := S.2.2.2.2
  have hl : lv_has ls 6 [(0, .long a0), (2, .int a1), (3, .int a2)] := hl
  have J_c101 : ∀ (w5 : Bool) (ls : Array Slot), F_X10_permits_c101 a0 a1 a2 w5 = res → lv_has ls 6 [(2, .int a1), (5, .int (zB w5))] → W p l e { frames := 0, cells := 0, slots := 0, locals := 0 } s m ([.long a0, .int a1, .int a2] : List Value).toArray below meth c H locs 0 0 Q (F0 m 101 ls []) := by
    intro w5 ls hf hl
    unfold F_X10_permits_c101 at hf
    refine lv_iload_n hx hb dX10_permits_101 rfl (lv_at hl 0 rfl) ?_
    refine lv_if_eq (tgt := 110) hx hb dX10_permits_102 (by decide) (fun c_102 => ?_) (fun c_102 => ?_)
    · rw [if_pos c_102] at hf
      refine lv_iconst (v := 1) hx hb dX10_permits_110 (by decide) ?_
      refine lv_goto (tgt := 115) hx hb dX10_permits_111 (by decide) ?_
      exact hend true 115 ls hf dX10_permits_115
    · rw [if_neg c_102] at hf
      refine lv_iload hx hb dX10_permits_105 (lv_at hl 1 rfl) ?_
      refine gz_eq (tgt := 114) hx hb dX10_permits_107 (by decide) (fun c_107 => ?_) (fun c_107 => ?_)
      · rw [if_neg c_107] at hf
        refine lv_iconst (v := 0) hx hb dX10_permits_114 (by decide) ?_
        exact hend false 115 ls hf dX10_permits_115
      · rw [if_pos c_107] at hf
        refine lv_iconst (v := 1) hx hb dX10_permits_110 (by decide) ?_
        refine lv_goto (tgt := 115) hx hb dX10_permits_111 (by decide) ?_
        exact hend true 115 ls hf dX10_permits_115
  have J_c34 : ∀ (w4 : Bool) (s0 : Bool) (ls : Array Slot), F_X10_permits_c34 a0 a1 a2 w4 s0 = res → lv_has ls 6 [(0, .long a0), (2, .int a1), (3, .int a2), (4, .int (zB w4))] → W p l e { frames := 0, cells := 0, slots := 0, locals := 0 } s m ([.long a0, .int a1, .int a2] : List Value).toArray below meth c H locs 0 0 Q (F0 m 34 ls [.int (zB s0)]) := by
    intro w4 s0 ls hf hl
    unfold F_X10_permits_c34 at hf
    refine lv_istore (lv' := [(5, .int (zB s0)), (0, .long a0), (2, .int a1), (3, .int a2), (4, .int (zB w4))]) hx hb dX10_permits_34 hl (by decide) rfl (fun ls hl => ?_)
    refine lv_iload_n hx hb dX10_permits_36 rfl (lv_at hl 2 rfl) ?_
    refine lv_iconst (v := 2) hx hb dX10_permits_37 (by decide) ?_
    refine lv_icmp_ne (tgt := 91) hx hb dX10_permits_38 (by decide) (fun c_38 => ?_) (fun c_38 => ?_)
    · rw [if_neg c_38] at hf
      refine lv_iload_n hx hb dX10_permits_91 rfl (lv_at hl 3 rfl) ?_
      refine lv_iconst (v := 1) hx hb dX10_permits_92 (by decide) ?_
      refine lv_icmp_eq (tgt := 101) hx hb dX10_permits_93 (by decide) (fun c_93 => ?_) (fun c_93 => ?_)
      · rw [if_pos c_93] at hf
        exact J_c101 s0 ls hf (lv_sub hl [2, 0] rfl)
      · rw [if_neg c_93] at hf
        refine lv_iload hx hb dX10_permits_96 (lv_at hl 4 rfl) ?_
        refine gz_eq (tgt := 114) hx hb dX10_permits_98 (by decide) (fun c_98 => ?_) (fun c_98 => ?_)
        · rw [if_neg c_98] at hf
          refine lv_iconst (v := 0) hx hb dX10_permits_114 (by decide) ?_
          exact hend false 115 ls hf dX10_permits_115
        · rw [if_pos c_98] at hf
          exact J_c101 s0 ls hf (lv_sub hl [2, 0] rfl)
    · rw [if_pos c_38] at hf
      refine lv_iload_n hx hb dX10_permits_41 rfl (lv_at hl 3 rfl) ?_
      refine lv_if_ne (tgt := 64) hx hb dX10_permits_42 (by decide) (fun c_42 => ?_) (fun c_42 => ?_)
      · rw [if_neg c_42] at hf
        refine lv_lload_n hx hb dX10_permits_64 rfl (lv_at hl 1 rfl) ?_
        refine lv_bipush (v := 53) hx hb dX10_permits_65 (by decide) ?_
        refine lv_lushr (v := (j_lushr a0 (53 : Int32))) hx hb dX10_permits_67 rfl ?_
        refine lv_lconst (v := 1) hx hb dX10_permits_68 (by decide) ?_
        refine lv_land hx hb dX10_permits_69 ?_
        refine lv_lconst (v := 0) hx hb dX10_permits_70 (by decide) ?_
        refine gl_ne (tgt := 89) hx hb dX10_permits_71 dX10_permits_72 (by decide) (fun c_71 => ?_) (fun c_71 => ?_)
        · rw [if_neg c_71] at hf
          refine lv_iconst (v := 0) hx hb dX10_permits_89 (by decide) ?_
          exact hend false 90 ls hf dX10_permits_90
        · rw [if_pos c_71] at hf
          refine lv_iload hx hb dX10_permits_75 (lv_at hl 4 rfl) ?_
          refine gz_eq (tgt := 85) hx hb dX10_permits_77 (by decide) (fun c_77 => ?_) (fun c_77 => ?_)
          · rw [if_neg c_77] at hf
            refine lv_iconst (v := 1) hx hb dX10_permits_85 (by decide) ?_
            refine lv_goto (tgt := 90) hx hb dX10_permits_86 (by decide) ?_
            exact hend true 90 ls hf dX10_permits_90
          · rw [if_pos c_77] at hf
            refine lv_iload hx hb dX10_permits_80 (lv_at hl 0 rfl) ?_
            refine gz_ne (tgt := 89) hx hb dX10_permits_82 (by decide) (fun c_82 => ?_) (fun c_82 => ?_)
            · rw [if_pos c_82] at hf
              refine lv_iconst (v := 0) hx hb dX10_permits_89 (by decide) ?_
              exact hend false 90 ls hf dX10_permits_90
            · rw [if_neg c_82] at hf
              refine lv_iconst (v := 1) hx hb dX10_permits_85 (by decide) ?_
              refine lv_goto (tgt := 90) hx hb dX10_permits_86 (by decide) ?_
              exact hend true 90 ls hf dX10_permits_90
      · rw [if_pos c_42] at hf
        refine lv_lload_n hx hb dX10_permits_45 rfl (lv_at hl 1 rfl) ?_
        refine lv_bipush (v := 54) hx hb dX10_permits_46 (by decide) ?_
        refine lv_lushr (v := (j_lushr a0 (54 : Int32))) hx hb dX10_permits_48 rfl ?_
        refine lv_lconst (v := 1) hx hb dX10_permits_49 (by decide) ?_
        refine lv_land hx hb dX10_permits_50 ?_
        refine lv_lconst (v := 0) hx hb dX10_permits_51 (by decide) ?_
        refine gl_ne (tgt := 60) hx hb dX10_permits_52 dX10_permits_53 (by decide) (fun c_52 => ?_) (fun c_52 => ?_)
        · rw [if_neg c_52] at hf
          refine lv_iconst (v := 0) hx hb dX10_permits_60 (by decide) ?_
          refine lv_goto (tgt := 90) hx hb dX10_permits_61 (by decide) ?_
          exact hend false 90 ls hf dX10_permits_90
        · rw [if_pos c_52] at hf
          refine lv_iconst (v := 1) hx hb dX10_permits_56 (by decide) ?_
          refine lv_goto (tgt := 90) hx hb dX10_permits_57 (by decide) ?_
          exact hend true 90 ls hf dX10_permits_90
  have J_c16 : ∀ (s0 : Bool) (ls : Array Slot), F_X10_permits_c16 a0 a1 a2 s0 = res → lv_has ls 6 [(0, .long a0), (2, .int a1), (3, .int a2)] → W p l e { frames := 0, cells := 0, slots := 0, locals := 0 } s m ([.long a0, .int a1, .int a2] : List Value).toArray below meth c H locs 0 0 Q (F0 m 16 ls [.int (zB s0)]) := by
    intro s0 ls hf hl
    unfold F_X10_permits_c16 at hf
    refine lv_istore (lv' := [(4, .int (zB s0)), (0, .long a0), (2, .int a1), (3, .int a2)]) hx hb dX10_permits_16 hl (by decide) rfl (fun ls hl => ?_)
    refine lv_lload_n hx hb dX10_permits_18 rfl (lv_at hl 1 rfl) ?_
    refine lv_bipush (v := 7) hx hb dX10_permits_19 (by decide) ?_
    refine lv_lushr (v := (j_lushr a0 (7 : Int32))) hx hb dX10_permits_21 rfl ?_
    refine lv_lconst (v := 1) hx hb dX10_permits_22 (by decide) ?_
    refine lv_land hx hb dX10_permits_23 ?_
    refine lv_lconst (v := 0) hx hb dX10_permits_24 (by decide) ?_
    refine gl_ne (tgt := 33) hx hb dX10_permits_25 dX10_permits_26 (by decide) (fun c_25 => ?_) (fun c_25 => ?_)
    · rw [if_neg c_25] at hf
      refine lv_iconst (v := 0) hx hb dX10_permits_33 (by decide) ?_
      exact J_c34 s0 false ls hf (lv_sub hl [1, 2, 3, 0] rfl)
    · rw [if_pos c_25] at hf
      refine lv_iconst (v := 1) hx hb dX10_permits_29 (by decide) ?_
      refine lv_goto (tgt := 34) hx hb dX10_permits_30 (by decide) ?_
      exact J_c34 s0 true ls hf (lv_sub hl [1, 2, 3, 0] rfl)
  unfold F_X10_permits at hf
  refine lv_lload_n hx hb dX10_permits_0 rfl (lv_at hl 0 rfl) ?_
  refine lv_bipush (v := 6) hx hb dX10_permits_1 (by decide) ?_
  refine lv_lushr (v := (j_lushr a0 (6 : Int32))) hx hb dX10_permits_3 rfl ?_
  refine lv_lconst (v := 1) hx hb dX10_permits_4 (by decide) ?_
  refine lv_land hx hb dX10_permits_5 ?_
  refine lv_lconst (v := 0) hx hb dX10_permits_6 (by decide) ?_
  refine gl_eq (tgt := 15) hx hb dX10_permits_7 dX10_permits_8 (by decide) (fun c_7 => ?_) (fun c_7 => ?_)
  · rw [if_pos c_7] at hf
    refine lv_iconst (v := 0) hx hb dX10_permits_15 (by decide) ?_
    exact J_c16 false ls hf (lv_sub hl [0, 1, 2] rfl)
  · rw [if_neg c_7] at hf
    refine lv_iconst (v := 1) hx hb dX10_permits_11 (by decide) ?_
    refine lv_goto (tgt := 16) hx hb dX10_permits_12 (by decide) ?_
    exact J_c16 true ls hf (lv_sub hl [0, 1, 2] rfl)
theorem k_X10_permits {p : Program} {l : Launch} {e : Env} {R : Room} {s : State} {m : MethodId} {args : Array Value} {below : List Frame} {meth : Method} {c : Code} {H : Heap} {locs : List Loc} {Q : State → Prop} {cc : ByteArray} {pc : Nat} {ls : Array Slot} {rest : List Value} {own : String} {index nL : Nat} {a0 : Int64} {a1 : Int32} {a2 : Int32} (S : CallFix p m c cc nL s args tbG own) (hl : Cond.methodLink own index yX10_permits ∈ tbG) (hR : 0 + 1 ≤ R.frames ∧ 8 + (6 + 11) + 0 ≤ R.locals) (hsz : ls.size = nL) (hcat : (rest.map fun v => v.category).sum ≤ 8) (hdg : decode cc pc = .ok (.invokestatic index, 3)) (kk : W p l e R s m args below meth c H locs 0 0 Q (F0 m (pc + 3) ls (.int (zB (F_X10_permits a0 a1 a2)) :: rest))) : W p l e R s m args below meth c H locs 0 0 Q (F0 m pc ls (.int a2 :: .int a1 :: .long a0 :: rest)) :=
  ks (As := [.long a0, .int a1, .int a2]) (ov := some (.int (zB (F_X10_permits a0 a1 a2)))) S (c_X10_permits l a0 a1 a2 _ rfl) ⟨tb_cB 3 S.2.2.2.2 tc_X10_permits ti_X10 hl rfl rfl (by decide +kernel) hR, S.2.2.2.2 _ ts_X10_permits⟩ rfl hsz rfl hcat hdg kk

