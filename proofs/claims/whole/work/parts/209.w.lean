theorem dX11_peek_0 : decode cX11_peek 0 = .ok (.aload_n 0, 1) := by decide +kernel
theorem dX11_peek_1 : decode cX11_peek 1 = .ok (.iload_n 1, 1) := by decide +kernel
theorem dX11_peek_2 : decode cX11_peek 2 = .ok (.invokevirtual 41, 3) := by decide +kernel
theorem dX11_peek_5 : decode cX11_peek 5 = .ok (.ifCond .eq 17, 3) := by decide +kernel
theorem dX11_peek_8 : decode cX11_peek 8 = .ok (.aload_n 0, 1) := by decide +kernel
theorem dX11_peek_9 : decode cX11_peek 9 = .ok (.getfield 10, 3) := by decide +kernel
theorem dX11_peek_12 : decode cX11_peek 12 = .ok (.iload_n 1, 1) := by decide +kernel
theorem dX11_peek_13 : decode cX11_peek 13 = .ok (.i2l, 1) := by decide +kernel
theorem dX11_peek_14 : decode cX11_peek 14 = .ok (.iconst 4, 1) := by decide +kernel
theorem dX11_peek_15 : decode cX11_peek 15 = .ok (.invokevirtual 49, 3) := by decide +kernel
theorem dX11_peek_18 : decode cX11_peek 18 = .ok (.l2i, 1) := by decide +kernel
theorem dX11_peek_19 : decode cX11_peek 19 = .ok (.goto 4, 3) := by decide +kernel
theorem dX11_peek_22 : decode cX11_peek 22 = .ok (.iconst 0, 1) := by decide +kernel
theorem dX11_peek_23 : decode cX11_peek 23 = .ok (.ireturn, 1) := by decide +kernel
def F_X11_peek (σ : XS) (a0 : Int32) : Option (Int32) := (if (F_X11_isWordPlace σ a0) = true then ((F_X4_read σ a0.toInt64 (4 : Int32)).bind fun v1 => some (v1.toInt32)) else some ((0 : Int32)))
set_option maxHeartbeats 4000000 in
set_option maxRecDepth 100000 in
theorem c_X11_peek (l : Launch) (z : Cx) (r : Nat → Nat) (σ : XS) (a0 : Int32) (res : Int32) (hf : F_X11_peek σ a0 = some res) : Met l yX11_peek (wsC yX11_peek cX11_peek 2 (some .int)) { frames := 2, cells := 0, slots := 0, locals := 47 } (rPc z (xW z r σ) [.ref (r 0), .int a0]) (gS (some (.int res))) 0 0 (fun _ => False) := by
  refine mk_r_i (own := RX11) (by decide) rfl _ (Nat.le_of_ble_eq_true rfl) (fun p e s m below meth c H locs Q ls S hK hP hl hend => ?_)
  have hx := S.1
  have hb := S.2.1
  have hown := S.2.2.2.1
  have hts := S.2.2.2.2
  have hl : lv_has ls 2 [(0, .ref (r 0)), (1, .int a0)] := hl
  unfold F_X11_peek at hf
  refine lv_aload_n hx hb dX11_peek_0 rfl (lv_at hl 0 rfl) ?_
  refine lv_iload_n hx hb dX11_peek_1 rfl (lv_at hl 1 rfl) ?_
  refine k_X11_isWordPlace (a0 := a0) S hK hP tl_X11_41 ⟨Nat.le_of_ble_eq_true rfl, Nat.le_of_ble_eq_true rfl⟩ hl.1 (Nat.le_of_ble_eq_true rfl) dX11_peek_2 ?_
  refine gz_eq (tgt := 22) hx hb dX11_peek_5 (by decide) (fun c_5 => ?_) (fun c_5 => ?_)
  · rw [if_neg c_5] at hf
    refine lv_iconst (v := 0) hx hb dX11_peek_22 (by decide) ?_
    exact hend (0 : Int32) 23 ls (Option.some.inj hf) dX11_peek_23
  · rw [if_pos c_5] at hf
    refine lv_aload_n hx hb dX11_peek_8 rfl (lv_at hl 0 rfl) ?_
    refine fg_X11_memory S hK hP tf_X11_10 dX11_peek_9 ?_
    refine lv_iload_n hx hb dX11_peek_12 rfl (lv_at hl 1 rfl) ?_
    refine lv_i2l hx hb dX11_peek_13 rfl ?_
    refine lv_iconst (v := 4) hx hb dX11_peek_14 (by decide) ?_
    obtain ⟨v1, e_v1, hf⟩ := Option.bind_eq_some_iff.mp hf
    refine k_X4_read (a0 := a0.toInt64) (a1 := (4 : Int32)) (res := v1) (hres := e_v1) S hK hP tl_X11_49 ⟨Nat.le_of_ble_eq_true rfl, Nat.le_of_ble_eq_true rfl⟩ hl.1 (Nat.le_of_ble_eq_true rfl) dX11_peek_15 ?_
    refine lv_l2i hx hb dX11_peek_18 rfl ?_
    refine lv_goto (tgt := 23) hx hb dX11_peek_19 (by decide) ?_
    exact hend v1.toInt32 23 ls (Option.some.inj hf) dX11_peek_23
theorem k_X11_peek {p : Program} {l : Launch} {e : Env} {R : Room} {s : State} {m : MethodId} {args : Array Value} {below : List Frame} {meth : Method} {c : Code} {H : Heap} {locs : List Loc} {Q : State → Prop} {cc : ByteArray} {pc : Nat} {ls : Array Slot} {rest : List Value} {own : String} {index nL : Nat} {z : Cx} {r : Nat → Nat} {σ : XS} {a0 : Int32} {res : Int32} (hres : F_X11_peek σ a0 = some res) (S : CallFix p m c cc nL s args tbG own) (hK : va_K z.1 vwCl (cxT z) s) (hP : va_P z.1 vwCl (xW z r σ) H) (hl : Cond.methodLink own index yX11_peek ∈ tbG) (hR : 2 + 1 ≤ R.frames ∧ 8 + (2 + 11) + 47 ≤ R.locals) (hsz : ls.size = nL) (hcat : (rest.map fun v => v.category).sum ≤ 8) (hdg : decode cc pc = .ok (.invokevirtual index, 3)) (kk : W p l e R s m args below meth c H locs 0 0 Q (F0 m (pc + 3) ls (.int res :: rest))) : W p l e R s m args below meth c H locs 0 0 Q (F0 m pc ls (.int a0 :: .ref (r 0) :: rest)) :=
  kr (As := [.int a0]) (ov := some (.int res)) (q0 := 0) (ci := 10) S hK hP (c_X11_peek l z r σ a0 _ hres) ⟨tb_cB 1 S.2.2.2.2 tc_X11_peek ti_X11 hl rfl rfl (by decide +kernel) hR, S.2.2.2.2 _ tm_X11_peek, S.2.2.2.2 _ te_X11_peek⟩ rfl rfl rfl rfl hsz rfl hcat hdg kk

theorem dX11_set_0 : decode cX11_set 0 = .ok (.aload_n 0, 1) := by decide +kernel
theorem dX11_set_1 : decode cX11_set 1 = .ok (.getfield 19, 3) := by decide +kernel
theorem dX11_set_4 : decode cX11_set 4 = .ok (.iload_n 1, 1) := by decide +kernel
theorem dX11_set_5 : decode cX11_set 5 = .ok (.iload_n 2, 1) := by decide +kernel
theorem dX11_set_6 : decode cX11_set 6 = .ok (.i2l, 1) := by decide +kernel
theorem dX11_set_7 : decode cX11_set 7 = .ok (.bipush 32, 2) := by decide +kernel
theorem dX11_set_9 : decode cX11_set 9 = .ok (.lshl, 1) := by decide +kernel
theorem dX11_set_10 : decode cX11_set 10 = .ok (.iload_n 3, 1) := by decide +kernel
theorem dX11_set_11 : decode cX11_set 11 = .ok (.i2l, 1) := by decide +kernel
theorem dX11_set_12 : decode cX11_set 12 = .ok (.ldc2_w 53, 3) := by decide +kernel
theorem dX11_set_15 : decode cX11_set 15 = .ok (.land, 1) := by decide +kernel
theorem dX11_set_16 : decode cX11_set 16 = .ok (.lor, 1) := by decide +kernel
theorem dX11_set_17 : decode cX11_set 17 = .ok (.invokevirtual 55, 3) := by decide +kernel
theorem dX11_set_20 : decode cX11_set 20 = .ok (.ireturn, 1) := by decide +kernel
def F_X11_set_c20 (τ : XS) (a0 : Int32) (a1 : Int32) (a2 : Int32) (s0 : Bool) : Bool × XS := (s0, τ)
def F_X11_set (σ : XS) (a0 : Int32) (a1 : Int32) (a2 : Int32) : Bool × XS := (F_X11_set_c20 (F_X8_putPart σ a0 ((j_lshl a1.toInt64 (32 : Int32)) ||| (a2.toInt64 &&& (4294967295 : Int64)))).2 a0 a1 a2 (F_X8_putPart σ a0 ((j_lshl a1.toInt64 (32 : Int32)) ||| (a2.toInt64 &&& (4294967295 : Int64)))).1)
set_option maxHeartbeats 4000000 in
set_option maxRecDepth 100000 in
theorem c_X11_set (l : Launch) (z : Cx) (r : Nat → Nat) (σ : XS) (a0 : Int32) (a1 : Int32) (a2 : Int32) (sz : Nat) (res : Bool × XS) (hf : F_X11_set σ a0 a1 a2 = res) : Met l yX11_set (wsC yX11_set cX11_set 4 (some .boolean)) { frames := 1, cells := 0, slots := 0, locals := 23 } (mPc z (xW z r σ) sz [.ref (r 0), .int a0, .int a1, .int a2]) (gM z (va_A (xW z r σ) sz) (some (.int (zB res.1))) (xW z r res.2)) 0 0 (va_A (xW z r σ) sz) := by
  refine mk_m_z (own := RX11) (wf := xW z r) (by decide) rfl sz _ (Nat.le_of_ble_eq_true rfl) (fun p e s m below meth c A H locs Q ls S hK hA hP hD hS hl hend => ?_)
  have hx := S.1
  have hb := S.2.1
  have hown := S.2.2.2.1
  have hts := S.2.2.2.2
  have hl : lv_has ls 4 [(0, .ref (r 0)), (1, .int a0), (2, .int a1), (3, .int a2)] := hl
  have J_c20 : ∀ (τ : XS) (s0 : Bool) (H : Heap) (locs : List Loc) (ls : Array Slot), F_X11_set_c20 τ a0 a1 a2 s0 = res → va_P z.1 vwCl (xW z r τ) H → va_D A (xW z r τ) → va_S A s.heap H locs → lv_has ls 4 [] → W p l e { frames := 1, cells := 0, slots := 0, locals := 23 } s m ([.ref (r 0), .int a0, .int a1, .int a2] : List Value).toArray below meth c H locs 0 0 Q (F0 m 20 ls [.int (zB s0)]) := by
    intro τ s0 H locs ls hf hP hD hS hl
    unfold F_X11_set_c20 at hf
    exact hend s0 τ H locs 20 ls hf hP hD hS dX11_set_20
  unfold F_X11_set at hf
  refine lv_aload_n hx hb dX11_set_0 rfl (lv_at hl 0 rfl) ?_
  refine fg_X11_state S hK hP tf_X11_19 dX11_set_1 ?_
  refine lv_iload_n hx hb dX11_set_4 rfl (lv_at hl 1 rfl) ?_
  refine lv_iload_n hx hb dX11_set_5 rfl (lv_at hl 2 rfl) ?_
  refine lv_i2l hx hb dX11_set_6 rfl ?_
  refine lv_bipush (v := 32) hx hb dX11_set_7 (by decide) ?_
  refine lv_lshl (v := (j_lshl a1.toInt64 (32 : Int32))) hx hb dX11_set_9 rfl ?_
  refine lv_iload_n hx hb dX11_set_10 rfl (lv_at hl 3 rfl) ?_
  refine lv_i2l hx hb dX11_set_11 rfl ?_
  refine lv_ldc2 (v := 4294967295) hx hb hown (hts _ tk_X11_53) dX11_set_12 ?_
  refine lv_land hx hb dX11_set_15 ?_
  refine lv_lor hx hb dX11_set_16 ?_
  refine k_X8_putPart (a0 := a0) (a1 := ((j_lshl a1.toInt64 (32 : Int32)) ||| (a2.toInt64 &&& (4294967295 : Int64)))) S hK hA hP hD hS tl_X11_55 ⟨Nat.le_of_ble_eq_true rfl, Nat.le_of_ble_eq_true rfl⟩ hl.1 (Nat.le_of_ble_eq_true rfl) dX11_set_17 (fun H locs hP hD hS => ?_)
  exact J_c20 (F_X8_putPart σ a0 ((j_lshl a1.toInt64 (32 : Int32)) ||| (a2.toInt64 &&& (4294967295 : Int64)))).2 (F_X8_putPart σ a0 ((j_lshl a1.toInt64 (32 : Int32)) ||| (a2.toInt64 &&& (4294967295 : Int64)))).1 H locs ls hf hP hD hS (lv_sub hl [] rfl)
theorem k_X11_set {p : Program} {l : Launch} {e : Env} {R : Room} {s : State} {m : MethodId} {args : Array Value} {below : List Frame} {meth : Method} {c : Code} {H : Heap} {locs : List Loc} {Q : State → Prop} {cc : ByteArray} {pc : Nat} {ls : Array Slot} {rest : List Value} {own : String} {index nL : Nat} {A : Nat → Prop} {z : Cx} {r : Nat → Nat} {σ : XS} {a0 : Int32} {a1 : Int32} {a2 : Int32} (S : CallFix p m c cc nL s args tbG own) (hK : va_K z.1 vwCl (cxT z) s) (hA : ∀ q, s.heap.size ≤ q → A q) (hP : va_P z.1 vwCl (xW z r σ) H) (hD : va_D A (xW z r σ)) (hS : va_S A s.heap H locs) (hl : Cond.methodLink own index yX11_set ∈ tbG) (hR : 1 + 1 ≤ R.frames ∧ 8 + (4 + 11) + 23 ≤ R.locals) (hsz : ls.size = nL) (hcat : (rest.map fun v => v.category).sum ≤ 8) (hdg : decode cc pc = .ok (.invokevirtual index, 3)) (kk : ∀ (H : Heap) (locs : List Loc), va_P z.1 vwCl (xW z r (F_X11_set σ a0 a1 a2).2) H → va_D A (xW z r (F_X11_set σ a0 a1 a2).2) → va_S A s.heap H locs → W p l e R s m args below meth c H locs 0 0 Q (F0 m (pc + 3) ls (.int (zB (F_X11_set σ a0 a1 a2).1) :: rest))) : W p l e R s m args below meth c H locs 0 0 Q (F0 m pc ls (.int a2 :: .int a1 :: .int a0 :: .ref (r 0) :: rest)) :=
  km (As := [.int a0, .int a1, .int a2]) (ov := some (.int (zB (F_X11_set σ a0 a1 a2).1))) (w' := xW z r (F_X11_set σ a0 a1 a2).2) (q0 := 0) (ci := 10) S hK hA hP hD hS (c_X11_set l z r σ a0 a1 a2 H.size _ rfl) ⟨tb_cB 3 S.2.2.2.2 tc_X11_set ti_X11 hl rfl rfl (by decide +kernel) hR, S.2.2.2.2 _ tm_X11_set, S.2.2.2.2 _ te_X11_set⟩ rfl rfl rfl rfl hsz rfl hcat hdg kk

theorem dX11_low_0 : decode cX11_low 0 = .ok (.aload_n 0, 1) := by decide +kernel
theorem dX11_low_1 : decode cX11_low 1 = .ok (.getfield 19, 3) := by decide +kernel
theorem dX11_low_4 : decode cX11_low 4 = .ok (.iload_n 1, 1) := by decide +kernel
theorem dX11_low_5 : decode cX11_low 5 = .ok (.invokevirtual 59, 3) := by decide +kernel
theorem dX11_low_8 : decode cX11_low 8 = .ok (.l2i, 1) := by decide +kernel
theorem dX11_low_9 : decode cX11_low 9 = .ok (.ireturn, 1) := by decide +kernel
def F_X11_low (σ : XS) (a0 : Int32) : Int32 := (F_X8_part σ a0).toInt32
set_option maxHeartbeats 4000000 in
set_option maxRecDepth 100000 in
theorem c_X11_low (l : Launch) (z : Cx) (r : Nat → Nat) (σ : XS) (a0 : Int32) (res : Int32) (hf : F_X11_low σ a0 = res) : Met l yX11_low (wsC yX11_low cX11_low 2 (some .int)) { frames := 1, cells := 0, slots := 0, locals := 21 } (rPc z (xW z r σ) [.ref (r 0), .int a0]) (gS (some (.int res))) 0 0 (fun _ => False) := by
  refine mk_r_i (own := RX11) (by decide) rfl _ (Nat.le_of_ble_eq_true rfl) (fun p e s m below meth c H locs Q ls S hK hP hl hend => ?_)
  have hx := S.1
  have hb := S.2.1
  have hown := S.2.2.2.1
  have hts := S.2.2.2.2
  have hl : lv_has ls 2 [(0, .ref (r 0)), (1, .int a0)] := hl
  unfold F_X11_low at hf
  refine lv_aload_n hx hb dX11_low_0 rfl (lv_at hl 0 rfl) ?_
  refine fg_X11_state S hK hP tf_X11_19 dX11_low_1 ?_
  refine lv_iload_n hx hb dX11_low_4 rfl (lv_at hl 1 rfl) ?_
  refine k_X8_part (a0 := a0) S hK hP tl_X11_59 ⟨Nat.le_of_ble_eq_true rfl, Nat.le_of_ble_eq_true rfl⟩ hl.1 (Nat.le_of_ble_eq_true rfl) dX11_low_5 ?_
  refine lv_l2i hx hb dX11_low_8 rfl ?_
  exact hend (F_X8_part σ a0).toInt32 9 ls hf dX11_low_9
theorem k_X11_low {p : Program} {l : Launch} {e : Env} {R : Room} {s : State} {m : MethodId} {args : Array Value} {below : List Frame} {meth : Method} {c : Code} {H : Heap} {locs : List Loc} {Q : State → Prop} {cc : ByteArray} {pc : Nat} {ls : Array Slot} {rest : List Value} {own : String} {index nL : Nat} {z : Cx} {r : Nat → Nat} {σ : XS} {a0 : Int32} (S : CallFix p m c cc nL s args tbG own) (hK : va_K z.1 vwCl (cxT z) s) (hP : va_P z.1 vwCl (xW z r σ) H) (hl : Cond.methodLink own index yX11_low ∈ tbG) (hR : 1 + 1 ≤ R.frames ∧ 8 + (2 + 11) + 21 ≤ R.locals) (hsz : ls.size = nL) (hcat : (rest.map fun v => v.category).sum ≤ 8) (hdg : decode cc pc = .ok (.invokevirtual index, 3)) (kk : W p l e R s m args below meth c H locs 0 0 Q (F0 m (pc + 3) ls (.int (F_X11_low σ a0) :: rest))) : W p l e R s m args below meth c H locs 0 0 Q (F0 m pc ls (.int a0 :: .ref (r 0) :: rest)) :=
  kr (As := [.int a0]) (ov := some (.int (F_X11_low σ a0))) (q0 := 0) (ci := 10) S hK hP (c_X11_low l z r σ a0 _ rfl) ⟨tb_cB 1 S.2.2.2.2 tc_X11_low ti_X11 hl rfl rfl (by decide +kernel) hR, S.2.2.2.2 _ tm_X11_low, S.2.2.2.2 _ te_X11_low⟩ rfl rfl rfl rfl hsz rfl hcat hdg kk

theorem dX11_high_0 : decode cX11_high 0 = .ok (.aload_n 0, 1) := by decide +kernel
theorem dX11_high_1 : decode cX11_high 1 = .ok (.getfield 19, 3) := by decide +kernel
theorem dX11_high_4 : decode cX11_high 4 = .ok (.iload_n 1, 1) := by decide +kernel
theorem dX11_high_5 : decode cX11_high 5 = .ok (.invokevirtual 59, 3) := by decide +kernel
theorem dX11_high_8 : decode cX11_high 8 = .ok (.bipush 32, 2) := by decide +kernel
theorem dX11_high_10 : decode cX11_high 10 = .ok (.lushr, 1) := by decide +kernel
theorem dX11_high_11 : decode cX11_high 11 = .ok (.l2i, 1) := by decide +kernel
theorem dX11_high_12 : decode cX11_high 12 = .ok (.ireturn, 1) := by decide +kernel
def F_X11_high (σ : XS) (a0 : Int32) : Int32 := (j_lushr (F_X8_part σ a0) (32 : Int32)).toInt32
set_option maxHeartbeats 4000000 in
set_option maxRecDepth 100000 in
theorem c_X11_high (l : Launch) (z : Cx) (r : Nat → Nat) (σ : XS) (a0 : Int32) (res : Int32) (hf : F_X11_high σ a0 = res) : Met l yX11_high (wsC yX11_high cX11_high 2 (some .int)) { frames := 1, cells := 0, slots := 0, locals := 21 } (rPc z (xW z r σ) [.ref (r 0), .int a0]) (gS (some (.int res))) 0 0 (fun _ => False) := by
  refine mk_r_i (own := RX11) (by decide) rfl _ (Nat.le_of_ble_eq_true rfl) (fun p e s m below meth c H locs Q ls S hK hP hl hend => ?_)
  have hx := S.1
  have hb := S.2.1
  have hown := S.2.2.2.1
  have hts := S.2.2.2.2
  have hl : lv_has ls 2 [(0, .ref (r 0)), (1, .int a0)] := hl
  unfold F_X11_high at hf
  refine lv_aload_n hx hb dX11_high_0 rfl (lv_at hl 0 rfl) ?_
  refine fg_X11_state S hK hP tf_X11_19 dX11_high_1 ?_
  refine lv_iload_n hx hb dX11_high_4 rfl (lv_at hl 1 rfl) ?_
  refine k_X8_part (a0 := a0) S hK hP tl_X11_59 ⟨Nat.le_of_ble_eq_true rfl, Nat.le_of_ble_eq_true rfl⟩ hl.1 (Nat.le_of_ble_eq_true rfl) dX11_high_5 ?_
  refine lv_bipush (v := 32) hx hb dX11_high_8 (by decide) ?_
  refine lv_lushr (v := (j_lushr (F_X8_part σ a0) (32 : Int32))) hx hb dX11_high_10 rfl ?_
  refine lv_l2i hx hb dX11_high_11 rfl ?_
  exact hend (j_lushr (F_X8_part σ a0) (32 : Int32)).toInt32 12 ls hf dX11_high_12
theorem k_X11_high {p : Program} {l : Launch} {e : Env} {R : Room} {s : State} {m : MethodId} {args : Array Value} {below : List Frame} {meth : Method} {c : Code} {H : Heap} {locs : List Loc} {Q : State → Prop} {cc : ByteArray} {pc : Nat} {ls : Array Slot} {rest : List Value} {own : String} {index nL : Nat} {z : Cx} {r : Nat → Nat} {σ : XS} {a0 : Int32} (S : CallFix p m c cc nL s args tbG own) (hK : va_K z.1 vwCl (cxT z) s) (hP : va_P z.1 vwCl (xW z r σ) H) (hl : Cond.methodLink own index yX11_high ∈ tbG) (hR : 1 + 1 ≤ R.frames ∧ 8 + (2 + 11) + 21 ≤ R.locals) (hsz : ls.size = nL) (hcat : (rest.map fun v => v.category).sum ≤ 8) (hdg : decode cc pc = .ok (.invokevirtual index, 3)) (kk : W p l e R s m args below meth c H locs 0 0 Q (F0 m (pc + 3) ls (.int (F_X11_high σ a0) :: rest))) : W p l e R s m args below meth c H locs 0 0 Q (F0 m pc ls (.int a0 :: .ref (r 0) :: rest)) :=
  kr (As := [.int a0]) (ov := some (.int (F_X11_high σ a0))) (q0 := 0) (ci := 10) S hK hP (c_X11_high l z r σ a0 _ rfl) ⟨tb_cB 1 S.2.2.2.2 tc_X11_high ti_X11 hl rfl rfl (by decide +kernel) hR, S.2.2.2.2 _ tm_X11_high, S.2.2.2.2 _ te_X11_high⟩ rfl rfl rfl rfl hsz rfl hcat hdg kk

theorem dX11_interrupt_0 : decode cX11_interrupt 0 = .ok (.aload_n 0, 1) := by decide +kernel
theorem dX11_interrupt_1 : decode cX11_interrupt 1 = .ok (.getfield 19, 3) := by decide +kernel
theorem dX11_interrupt_4 : decode cX11_interrupt 4 = .ok (.iload_n 1, 1) := by decide +kernel
theorem dX11_interrupt_5 : decode cX11_interrupt 5 = .ok (.invokevirtual 63, 3) := by decide +kernel
theorem dX11_interrupt_8 : decode cX11_interrupt 8 = .ok (.return_, 1) := by decide +kernel
def F_X11_interrupt (σ : XS) (a0 : Bool) : XS := (F_X8_putInterrupt σ a0)
set_option maxHeartbeats 4000000 in
set_option maxRecDepth 100000 in
theorem c_X11_interrupt (l : Launch) (z : Cx) (r : Nat → Nat) (σ : XS) (a0 : Bool) (sz : Nat) (res : XS) (hf : F_X11_interrupt σ a0 = res) : Met l yX11_interrupt (wsC yX11_interrupt cX11_interrupt 2 none) { frames := 1, cells := 0, slots := 0, locals := 21 } (mPc z (xW z r σ) sz [.ref (r 0), .int (zB a0)]) (gM z (va_A (xW z r σ) sz) none (xW z r res)) 0 0 (va_A (xW z r σ) sz) := by
  refine mk_m_v (own := RX11) (wf := xW z r) (by decide) rfl sz _ (Nat.le_of_ble_eq_true rfl) (fun p e s m below meth c A H locs Q ls S hK hA hP hD hS hl hend => ?_)
  have hx := S.1
  have hb := S.2.1
  have hown := S.2.2.2.1
  have hts := S.2.2.2.2
  have hl : lv_has ls 2 [(0, .ref (r 0)), (1, .int (zB a0))] := hl
  unfold F_X11_interrupt at hf
  refine lv_aload_n hx hb dX11_interrupt_0 rfl (lv_at hl 0 rfl) ?_
  refine fg_X11_state S hK hP tf_X11_19 dX11_interrupt_1 ?_
  refine lv_iload_n hx hb dX11_interrupt_4 rfl (lv_at hl 1 rfl) ?_
  refine k_X8_putInterrupt (a0 := a0) S hK hA hP hD hS tl_X11_63 ⟨Nat.le_of_ble_eq_true rfl, Nat.le_of_ble_eq_true rfl⟩ hl.1 (Nat.le_of_ble_eq_true rfl) dX11_interrupt_5 (fun H locs hP hD hS => ?_)
  exact hend (F_X8_putInterrupt σ a0) H locs 8 ls hf hP hD hS dX11_interrupt_8
theorem k_X11_interrupt {p : Program} {l : Launch} {e : Env} {R : Room} {s : State} {m : MethodId} {args : Array Value} {below : List Frame} {meth : Method} {c : Code} {H : Heap} {locs : List Loc} {Q : State → Prop} {cc : ByteArray} {pc : Nat} {ls : Array Slot} {rest : List Value} {own : String} {index nL : Nat} {A : Nat → Prop} {z : Cx} {r : Nat → Nat} {σ : XS} {a0 : Bool} (S : CallFix p m c cc nL s args tbG own) (hK : va_K z.1 vwCl (cxT z) s) (hA : ∀ q, s.heap.size ≤ q → A q) (hP : va_P z.1 vwCl (xW z r σ) H) (hD : va_D A (xW z r σ)) (hS : va_S A s.heap H locs) (hl : Cond.methodLink own index yX11_interrupt ∈ tbG) (hR : 1 + 1 ≤ R.frames ∧ 8 + (2 + 11) + 21 ≤ R.locals) (hsz : ls.size = nL) (hcat : (rest.map fun v => v.category).sum ≤ 8) (hdg : decode cc pc = .ok (.invokevirtual index, 3)) (kk : ∀ (H : Heap) (locs : List Loc), va_P z.1 vwCl (xW z r (F_X11_interrupt σ a0)) H → va_D A (xW z r (F_X11_interrupt σ a0)) → va_S A s.heap H locs → W p l e R s m args below meth c H locs 0 0 Q (F0 m (pc + 3) ls (rest))) : W p l e R s m args below meth c H locs 0 0 Q (F0 m pc ls (.int (zB a0) :: .ref (r 0) :: rest)) :=
  km (As := [.int (zB a0)]) (ov := none) (w' := xW z r (F_X11_interrupt σ a0)) (q0 := 0) (ci := 10) S hK hA hP hD hS (c_X11_interrupt l z r σ a0 H.size _ rfl) ⟨tb_cB 1 S.2.2.2.2 tc_X11_interrupt ti_X11 hl rfl rfl (by decide +kernel) hR, S.2.2.2.2 _ tm_X11_interrupt, S.2.2.2.2 _ te_X11_interrupt⟩ rfl rfl rfl rfl hsz rfl hcat hdg kk

theorem dX11_step_0 : decode cX11_step 0 = .ok (.iload_n 1, 1) := by decide +kernel
theorem dX11_step_1 : decode cX11_step 1 = .ok (.ifCond .lt 10, 3) := by decide +kernel
theorem dX11_step_4 : decode cX11_step 4 = .ok (.iload_n 1, 1) := by decide +kernel
theorem dX11_step_5 : decode cX11_step 5 = .ok (.sipush 2000, 3) := by decide +kernel
theorem dX11_step_8 : decode cX11_step 8 = .ok (.if_icmp .le 5, 3) := by decide +kernel
theorem dX11_step_11 : decode cX11_step 11 = .ok (.iconst (-1), 1) := by decide +kernel
theorem dX11_step_12 : decode cX11_step 12 = .ok (.ireturn, 1) := by decide +kernel
theorem dX11_step_13 : decode cX11_step 13 = .ok (.aload_n 0, 1) := by decide +kernel
theorem dX11_step_14 : decode cX11_step 14 = .ok (.getfield 19, 3) := by decide +kernel
theorem dX11_step_17 : decode cX11_step 17 = .ok (.invokevirtual 67, 3) := by decide +kernel
theorem dX11_step_20 : decode cX11_step 20 = .ok (.istore_n 2, 1) := by decide +kernel
theorem dX11_step_21 : decode cX11_step 21 = .ok (.iconst 0, 1) := by decide +kernel
theorem dX11_step_22 : decode cX11_step 22 = .ok (.istore_n 3, 1) := by decide +kernel
theorem dX11_step_23 : decode cX11_step 23 = .ok (.iload_n 3, 1) := by decide +kernel
theorem dX11_step_24 : decode cX11_step 24 = .ok (.iload_n 1, 1) := by decide +kernel
theorem dX11_step_25 : decode cX11_step 25 = .ok (.if_icmp .ge 52, 3) := by decide +kernel
theorem dX11_step_28 : decode cX11_step 28 = .ok (.aload_n 0, 1) := by decide +kernel
theorem dX11_step_29 : decode cX11_step 29 = .ok (.getfield 19, 3) := by decide +kernel
theorem dX11_step_32 : decode cX11_step 32 = .ok (.invokevirtual 71, 3) := by decide +kernel
theorem dX11_step_35 : decode cX11_step 35 = .ok (.aload_n 0, 1) := by decide +kernel
theorem dX11_step_36 : decode cX11_step 36 = .ok (.getfield 37, 3) := by decide +kernel
theorem dX11_step_39 : decode cX11_step 39 = .ok (.invokevirtual 74, 3) := by decide +kernel
theorem dX11_step_42 : decode cX11_step 42 = .ok (.ifCond .eq 22, 3) := by decide +kernel
theorem dX11_step_45 : decode cX11_step 45 = .ok (.aload_n 0, 1) := by decide +kernel
theorem dX11_step_46 : decode cX11_step 46 = .ok (.getfield 37, 3) := by decide +kernel
theorem dX11_step_49 : decode cX11_step 49 = .ok (.invokevirtual 78, 3) := by decide +kernel
theorem dX11_step_52 : decode cX11_step 52 = .ok (.ifCond .ne 12, 3) := by decide +kernel
theorem dX11_step_55 : decode cX11_step 55 = .ok (.aload_n 0, 1) := by decide +kernel
theorem dX11_step_56 : decode cX11_step 56 = .ok (.getfield 19, 3) := by decide +kernel
theorem dX11_step_59 : decode cX11_step 59 = .ok (.iconst 0, 1) := by decide +kernel
theorem dX11_step_60 : decode cX11_step 60 = .ok (.iconst 0, 1) := by decide +kernel
theorem dX11_step_61 : decode cX11_step 61 = .ok (.invokevirtual 81, 3) := by decide +kernel
theorem dX11_step_64 : decode cX11_step 64 = .ok (.aload_n 0, 1) := by decide +kernel
theorem dX11_step_65 : decode cX11_step 65 = .ok (.getfield 19, 3) := by decide +kernel
theorem dX11_step_68 : decode cX11_step 68 = .ok (.invokevirtual 85, 3) := by decide +kernel
theorem dX11_step_71 : decode cX11_step 71 = .ok (.iinc 3 1, 3) := by decide +kernel
theorem dX11_step_74 : decode cX11_step 74 = .ok (.goto (-51), 3) := by decide +kernel
theorem dX11_step_77 : decode cX11_step 77 = .ok (.aload_n 0, 1) := by decide +kernel
theorem dX11_step_78 : decode cX11_step 78 = .ok (.getfield 19, 3) := by decide +kernel
theorem dX11_step_81 : decode cX11_step 81 = .ok (.invokevirtual 67, 3) := by decide +kernel
theorem dX11_step_84 : decode cX11_step 84 = .ok (.iload_n 2, 1) := by decide +kernel
theorem dX11_step_85 : decode cX11_step 85 = .ok (.isub, 1) := by decide +kernel
theorem dX11_step_86 : decode cX11_step 86 = .ok (.ireturn, 1) := by decide +kernel
def F_X11_step_c64 (k : XS → Int32 → Int32 → Int32 → Option (Int32 × XS)) (τ : XS) (a0 : Int32) (w2 : Int32) (w3 : Int32) : Option (Int32 × XS) := (k (F_X8_finish τ) a0 w2 (w3 + (1)))
def F_X11_step_c23 : Nat → XS → Int32 → Int32 → Int32 → Option (Int32 × XS)
  | 0, _, _, _, _ => none
  | n + 1, τ, a0, w2, w3 => (if a0 ≤ w3 then some ((((F_X8_taken τ) - w2), τ)) else ((F_X6_fetches (F_X8_begin τ)).bind fun v1 => (if v1.1 = true then ((F_X6_performs v1.2).bind fun v2 => (if v2.1 = true then (F_X11_step_c64 (F_X11_step_c23 n) v2.2 a0 w2 w3) else (F_X11_step_c64 (F_X11_step_c23 n) (F_X8_raise v2.2 (0 : Int32) (0 : Int32)) a0 w2 w3))) else (F_X11_step_c64 (F_X11_step_c23 n) v1.2 a0 w2 w3))))
def F_X11_step (σ : XS) (a0 : Int32) : Option (Int32 × XS) := (if a0 < 0 then some (((-1 : Int32), σ)) else (if a0 ≤ (2000 : Int32) then (F_X11_step_c23 2001 σ a0 (F_X8_taken σ) (0 : Int32)) else some (((-1 : Int32), σ))))
set_option maxHeartbeats 4000000 in
set_option maxRecDepth 100000 in
theorem c_X11_step (l : Launch) (z : Cx) (r : Nat → Nat) (σ : XS) (a0 : Int32) (sz : Nat) (res : Int32 × XS) (hf : F_X11_step σ a0 = some res) : Met l yX11_step (wsC yX11_step cX11_step 4 (some .int)) { frames := 7, cells := 0, slots := 0, locals := 191 } (mPc z (xW z r σ) sz [.ref (r 0), .int a0]) (gM z (va_A (xW z r σ) sz) (some (.int res.1)) (xW z r res.2)) 0 0 (va_A (xW z r σ) sz) := by
  refine mk_m_i (own := RX11) (wf := xW z r) (by decide) rfl sz _ (Nat.le_of_ble_eq_true rfl) (fun p e s m below meth c A H locs Q ls S hK hA hP hD hS hl hend => ?_)
  have hx := S.1
  have hb := S.2.1
  have hown := S.2.2.2.1
  have hts := S.2.2.2.2
  have hl : lv_has ls 4 [(0, .ref (r 0)), (1, .int a0)] := hl
  have J_c23 : ∀ (n : Nat) (τ : XS) (w2 : Int32) (w3 : Int32) (H : Heap) (locs : List Loc) (ls : Array Slot), F_X11_step_c23 n τ a0 w2 w3 = some res → va_P z.1 vwCl (xW z r τ) H → va_D A (xW z r τ) → va_S A s.heap H locs → lv_has ls 4 [(0, .ref (r 0)), (1, .int a0), (2, .int w2), (3, .int w3)] → W p l e { frames := 7, cells := 0, slots := 0, locals := 191 } s m ([.ref (r 0), .int a0] : List Value).toArray below meth c H locs 0 0 Q (F0 m 23 ls []) := by
    intro n
    induction n with
    | zero => intro τ w2 w3 H locs ls hf; rw [F_X11_step_c23] at hf; cases hf
    | succ n ih =>
      have J_c64 : ∀ (τ : XS) (w2 : Int32) (w3 : Int32) (H : Heap) (locs : List Loc) (ls : Array Slot), F_X11_step_c64 (F_X11_step_c23 n) τ a0 w2 w3 = some res → va_P z.1 vwCl (xW z r τ) H → va_D A (xW z r τ) → va_S A s.heap H locs → lv_has ls 4 [(0, .ref (r 0)), (1, .int a0), (2, .int w2), (3, .int w3)] → W p l e { frames := 7, cells := 0, slots := 0, locals := 191 } s m ([.ref (r 0), .int a0] : List Value).toArray below meth c H locs 0 0 Q (F0 m 64 ls []) := by
        intro τ w2 w3 H locs ls hf hP hD hS hl
        unfold F_X11_step_c64 at hf
        refine lv_aload_n hx hb dX11_step_64 rfl (lv_at hl 0 rfl) ?_
        refine fg_X11_state S hK hP tf_X11_19 dX11_step_65 ?_
        refine k_X8_finish S hK hA hP hD hS tl_X11_85 ⟨Nat.le_of_ble_eq_true rfl, Nat.le_of_ble_eq_true rfl⟩ hl.1 (Nat.le_of_ble_eq_true rfl) dX11_step_68 (fun H locs hP hD hS => ?_)
        refine lv_iinc (v := w3 + (1)) (lv' := [(3, .int (w3 + (1))), (0, .ref (r 0)), (1, .int a0), (2, .int w2)]) hx hb dX11_step_71 hl (k := 3) rfl rfl (by decide) rfl (fun ls hl => ?_)
        refine lv_goto (tgt := 23) hx hb dX11_step_74 (by decide) ?_
        exact ih (F_X8_finish τ) w2 (w3 + (1)) H locs ls hf hP hD hS (lv_sub hl [1, 2, 3, 0] rfl)
      intro τ w2 w3 H locs ls hf hP hD hS hl
      rw [F_X11_step_c23] at hf
      refine lv_iload_n hx hb dX11_step_23 rfl (lv_at hl 3 rfl) ?_
      refine lv_iload_n hx hb dX11_step_24 rfl (lv_at hl 1 rfl) ?_
      refine lv_icmp_ge (tgt := 77) hx hb dX11_step_25 (by decide) (fun c_25 => ?_) (fun c_25 => ?_)
      · rw [if_pos c_25] at hf
        refine lv_aload_n hx hb dX11_step_77 rfl (lv_at hl 0 rfl) ?_
        refine fg_X11_state S hK hP tf_X11_19 dX11_step_78 ?_
        refine k_X8_taken S hK hP tl_X11_67 ⟨Nat.le_of_ble_eq_true rfl, Nat.le_of_ble_eq_true rfl⟩ hl.1 (Nat.le_of_ble_eq_true rfl) dX11_step_81 ?_
        refine lv_iload_n hx hb dX11_step_84 rfl (lv_at hl 2 rfl) ?_
        refine lv_isub hx hb dX11_step_85 ?_
        exact hend ((F_X8_taken τ) - w2) τ H locs 86 ls (Option.some.inj hf) hP hD hS dX11_step_86
      · rw [if_neg c_25] at hf
        refine lv_aload_n hx hb dX11_step_28 rfl (lv_at hl 0 rfl) ?_
        refine fg_X11_state S hK hP tf_X11_19 dX11_step_29 ?_
        refine k_X8_begin S hK hA hP hD hS tl_X11_71 ⟨Nat.le_of_ble_eq_true rfl, Nat.le_of_ble_eq_true rfl⟩ hl.1 (Nat.le_of_ble_eq_true rfl) dX11_step_32 (fun H locs hP hD hS => ?_)
        refine lv_aload_n hx hb dX11_step_35 rfl (lv_at hl 0 rfl) ?_
        refine fg_X11_processor S hK hP tf_X11_37 dX11_step_36 ?_
        obtain ⟨v1, e_v1, hf⟩ := Option.bind_eq_some_iff.mp hf
        refine k_X6_fetches (res := v1) (hres := e_v1) S hK hA hP hD hS tl_X11_74 ⟨Nat.le_of_ble_eq_true rfl, Nat.le_of_ble_eq_true rfl⟩ hl.1 (Nat.le_of_ble_eq_true rfl) dX11_step_39 (fun H locs hP hD hS => ?_)
        refine gz_eq (tgt := 64) hx hb dX11_step_42 (by decide) (fun c_42 => ?_) (fun c_42 => ?_)
        · rw [if_neg c_42] at hf
          exact J_c64 v1.2 w2 w3 H locs ls hf hP hD hS (lv_sub hl [0, 1, 2, 3] rfl)
        · rw [if_pos c_42] at hf
          refine lv_aload_n hx hb dX11_step_45 rfl (lv_at hl 0 rfl) ?_
          refine fg_X11_processor S hK hP tf_X11_37 dX11_step_46 ?_
          obtain ⟨v2, e_v2, hf⟩ := Option.bind_eq_some_iff.mp hf
          refine k_X6_performs (res := v2) (hres := e_v2) S hK hA hP hD hS tl_X11_78 ⟨Nat.le_of_ble_eq_true rfl, Nat.le_of_ble_eq_true rfl⟩ hl.1 (Nat.le_of_ble_eq_true rfl) dX11_step_49 (fun H locs hP hD hS => ?_)
          refine gz_ne (tgt := 64) hx hb dX11_step_52 (by decide) (fun c_52 => ?_) (fun c_52 => ?_)
          · rw [if_pos c_52] at hf
            exact J_c64 v2.2 w2 w3 H locs ls hf hP hD hS (lv_sub hl [0, 1, 2, 3] rfl)
          · rw [if_neg c_52] at hf
            refine lv_aload_n hx hb dX11_step_55 rfl (lv_at hl 0 rfl) ?_
            refine fg_X11_state S hK hP tf_X11_19 dX11_step_56 ?_
            refine lv_iconst (v := 0) hx hb dX11_step_59 (by decide) ?_
            refine lv_iconst (v := 0) hx hb dX11_step_60 (by decide) ?_
            refine k_X8_raise (a0 := (0 : Int32)) (a1 := (0 : Int32)) S hK hA hP hD hS tl_X11_81 ⟨Nat.le_of_ble_eq_true rfl, Nat.le_of_ble_eq_true rfl⟩ hl.1 (Nat.le_of_ble_eq_true rfl) dX11_step_61 (fun H locs hP hD hS => ?_)
            exact J_c64 (F_X8_raise v2.2 (0 : Int32) (0 : Int32)) w2 w3 H locs ls hf hP hD hS (lv_sub hl [0, 1, 2, 3] rfl)
  unfold F_X11_step at hf
  refine lv_iload_n hx hb dX11_step_0 rfl (lv_at hl 1 rfl) ?_
  refine lv_if_lt (tgt := 11) hx hb dX11_step_1 (by decide) (fun c_1 => ?_) (fun c_1 => ?_)
  · rw [if_pos c_1] at hf
    refine lv_iconst (v := -1) hx hb dX11_step_11 (by decide) ?_
    exact hend (-1 : Int32) σ H locs 12 ls (Option.some.inj hf) hP hD hS dX11_step_12
  · rw [if_neg c_1] at hf
    refine lv_iload_n hx hb dX11_step_4 rfl (lv_at hl 1 rfl) ?_
    refine lv_sipush (v := 2000) hx hb dX11_step_5 (by decide) ?_
    refine lv_icmp_le (tgt := 13) hx hb dX11_step_8 (by decide) (fun c_8 => ?_) (fun c_8 => ?_)
    · rw [if_pos c_8] at hf
      refine lv_aload_n hx hb dX11_step_13 rfl (lv_at hl 0 rfl) ?_
      refine fg_X11_state S hK hP tf_X11_19 dX11_step_14 ?_
      refine k_X8_taken S hK hP tl_X11_67 ⟨Nat.le_of_ble_eq_true rfl, Nat.le_of_ble_eq_true rfl⟩ hl.1 (Nat.le_of_ble_eq_true rfl) dX11_step_17 ?_
      refine lv_istore_n (lv' := [(2, .int (F_X8_taken σ)), (0, .ref (r 0)), (1, .int a0)]) hx hb dX11_step_20 rfl hl (by decide) rfl (fun ls hl => ?_)
      refine lv_iconst (v := 0) hx hb dX11_step_21 (by decide) ?_
      refine lv_istore_n (lv' := [(3, .int (0 : Int32)), (2, .int (F_X8_taken σ)), (0, .ref (r 0)), (1, .int a0)]) hx hb dX11_step_22 rfl hl (by decide) rfl (fun ls hl => ?_)
      exact J_c23 2001 σ (F_X8_taken σ) (0 : Int32) H locs ls hf hP hD hS (lv_sub hl [2, 3, 1, 0] rfl)
    · rw [if_neg c_8] at hf
      refine lv_iconst (v := -1) hx hb dX11_step_11 (by decide) ?_
      exact hend (-1 : Int32) σ H locs 12 ls (Option.some.inj hf) hP hD hS dX11_step_12
theorem k_X11_step {p : Program} {l : Launch} {e : Env} {R : Room} {s : State} {m : MethodId} {args : Array Value} {below : List Frame} {meth : Method} {c : Code} {H : Heap} {locs : List Loc} {Q : State → Prop} {cc : ByteArray} {pc : Nat} {ls : Array Slot} {rest : List Value} {own : String} {index nL : Nat} {A : Nat → Prop} {z : Cx} {r : Nat → Nat} {σ : XS} {a0 : Int32} {res : Int32 × XS} (hres : F_X11_step σ a0 = some res) (S : CallFix p m c cc nL s args tbG own) (hK : va_K z.1 vwCl (cxT z) s) (hA : ∀ q, s.heap.size ≤ q → A q) (hP : va_P z.1 vwCl (xW z r σ) H) (hD : va_D A (xW z r σ)) (hS : va_S A s.heap H locs) (hl : Cond.methodLink own index yX11_step ∈ tbG) (hR : 7 + 1 ≤ R.frames ∧ 8 + (4 + 11) + 191 ≤ R.locals) (hsz : ls.size = nL) (hcat : (rest.map fun v => v.category).sum ≤ 8) (hdg : decode cc pc = .ok (.invokevirtual index, 3)) (kk : ∀ (H : Heap) (locs : List Loc), va_P z.1 vwCl (xW z r res.2) H → va_D A (xW z r res.2) → va_S A s.heap H locs → W p l e R s m args below meth c H locs 0 0 Q (F0 m (pc + 3) ls (.int res.1 :: rest))) : W p l e R s m args below meth c H locs 0 0 Q (F0 m pc ls (.int a0 :: .ref (r 0) :: rest)) :=
  km (As := [.int a0]) (ov := some (.int res.1)) (w' := xW z r res.2) (q0 := 0) (ci := 10) S hK hA hP hD hS (c_X11_step l z r σ a0 H.size _ hres) ⟨tb_cB 1 S.2.2.2.2 tc_X11_step ti_X11 hl rfl rfl (by decide +kernel) hR, S.2.2.2.2 _ tm_X11_step, S.2.2.2.2 _ te_X11_step⟩ rfl rfl rfl rfl hsz rfl hcat hdg kk

theorem dX11_look_0 : decode cX11_look 0 = .ok (.iload_n 3, 1) := by decide +kernel
theorem dX11_look_1 : decode cX11_look 1 = .ok (.ifCond .lt 19, 3) := by decide +kernel
theorem dX11_look_4 : decode cX11_look 4 = .ok (.iload_n 3, 1) := by decide +kernel
theorem dX11_look_5 : decode cX11_look 5 = .ok (.iconst 2, 1) := by decide +kernel
theorem dX11_look_6 : decode cX11_look 6 = .ok (.if_icmp .gt 14, 3) := by decide +kernel
theorem dX11_look_9 : decode cX11_look 9 = .ok (.iload 4, 2) := by decide +kernel
theorem dX11_look_11 : decode cX11_look 11 = .ok (.ifCond .lt 9, 3) := by decide +kernel
theorem dX11_look_14 : decode cX11_look 14 = .ok (.iload 4, 2) := by decide +kernel
theorem dX11_look_16 : decode cX11_look 16 = .ok (.iconst 1, 1) := by decide +kernel
theorem dX11_look_17 : decode cX11_look 17 = .ok (.if_icmp .le 6, 3) := by decide +kernel
theorem dX11_look_20 : decode cX11_look 20 = .ok (.bipush (-100), 2) := by decide +kernel
theorem dX11_look_22 : decode cX11_look 22 = .ok (.ireturn, 1) := by decide +kernel
theorem dX11_look_23 : decode cX11_look 23 = .ok (.aload_n 0, 1) := by decide +kernel
theorem dX11_look_24 : decode cX11_look 24 = .ok (.getfield 28, 3) := by decide +kernel
theorem dX11_look_27 : decode cX11_look 27 = .ok (.iload_n 1, 1) := by decide +kernel
theorem dX11_look_28 : decode cX11_look 28 = .ok (.i2l, 1) := by decide +kernel
theorem dX11_look_29 : decode cX11_look 29 = .ok (.bipush 32, 2) := by decide +kernel
theorem dX11_look_31 : decode cX11_look 31 = .ok (.lshl, 1) := by decide +kernel
theorem dX11_look_32 : decode cX11_look 32 = .ok (.iload_n 2, 1) := by decide +kernel
theorem dX11_look_33 : decode cX11_look 33 = .ok (.i2l, 1) := by decide +kernel
theorem dX11_look_34 : decode cX11_look 34 = .ok (.ldc2_w 53, 3) := by decide +kernel
theorem dX11_look_37 : decode cX11_look 37 = .ok (.land, 1) := by decide +kernel
theorem dX11_look_38 : decode cX11_look 38 = .ok (.lor, 1) := by decide +kernel
theorem dX11_look_39 : decode cX11_look 39 = .ok (.iconst 1, 1) := by decide +kernel
theorem dX11_look_40 : decode cX11_look 40 = .ok (.iload_n 3, 1) := by decide +kernel
theorem dX11_look_41 : decode cX11_look 41 = .ok (.iload 4, 2) := by decide +kernel
theorem dX11_look_43 : decode cX11_look 43 = .ok (.invokevirtual 88, 3) := by decide +kernel
theorem dX11_look_46 : decode cX11_look 46 = .ok (.ireturn, 1) := by decide +kernel
def F_X11_look (σ : XS) (a0 : Int32) (a1 : Int32) (a2 : Int32) (a3 : Int32) : Option (Int32) := (if a2 < 0 then some ((-100 : Int32)) else (if (2 : Int32) < a2 then some ((-100 : Int32)) else (if a3 < 0 then some ((-100 : Int32)) else (if a3 ≤ (1 : Int32) then ((F_X10_find σ ((j_lshl a0.toInt64 (32 : Int32)) ||| (a1.toInt64 &&& (4294967295 : Int64))) (1 : Int32) a2 a3).bind fun v1 => some (v1)) else some ((-100 : Int32))))))
set_option maxHeartbeats 4000000 in
set_option maxRecDepth 100000 in
theorem c_X11_look (l : Launch) (z : Cx) (r : Nat → Nat) (σ : XS) (a0 : Int32) (a1 : Int32) (a2 : Int32) (a3 : Int32) (res : Int32) (hf : F_X11_look σ a0 a1 a2 a3 = some res) : Met l yX11_look (wsC yX11_look cX11_look 5 (some .int)) { frames := 4, cells := 0, slots := 0, locals := 110 } (rPc z (xW z r σ) [.ref (r 0), .int a0, .int a1, .int a2, .int a3]) (gS (some (.int res))) 0 0 (fun _ => False) := by
  refine mk_r_i (own := RX11) (by decide) rfl _ (Nat.le_of_ble_eq_true rfl) (fun p e s m below meth c H locs Q ls S hK hP hl hend => ?_)
  have hx := S.1
  have hb := S.2.1
  have hown := S.2.2.2.1
  have hts := S.2.2.2.2
  have hl : lv_has ls 5 [(0, .ref (r 0)), (1, .int a0), (2, .int a1), (3, .int a2), (4, .int a3)] := hl
  unfold F_X11_look at hf
  refine lv_iload_n hx hb dX11_look_0 rfl (lv_at hl 3 rfl) ?_
  refine lv_if_lt (tgt := 20) hx hb dX11_look_1 (by decide) (fun c_1 => ?_) (fun c_1 => ?_)
  · rw [if_pos c_1] at hf
    refine lv_bipush (v := -100) hx hb dX11_look_20 (by decide) ?_
    exact hend (-100 : Int32) 22 ls (Option.some.inj hf) dX11_look_22
  · rw [if_neg c_1] at hf
    refine lv_iload_n hx hb dX11_look_4 rfl (lv_at hl 3 rfl) ?_
    refine lv_iconst (v := 2) hx hb dX11_look_5 (by decide) ?_
    refine lv_icmp_gt (tgt := 20) hx hb dX11_look_6 (by decide) (fun c_6 => ?_) (fun c_6 => ?_)
    · rw [if_pos c_6] at hf
      refine lv_bipush (v := -100) hx hb dX11_look_20 (by decide) ?_
      exact hend (-100 : Int32) 22 ls (Option.some.inj hf) dX11_look_22
    · rw [if_neg c_6] at hf
      refine lv_iload hx hb dX11_look_9 (lv_at hl 4 rfl) ?_
      refine lv_if_lt (tgt := 20) hx hb dX11_look_11 (by decide) (fun c_11 => ?_) (fun c_11 => ?_)
      · rw [if_pos c_11] at hf
        refine lv_bipush (v := -100) hx hb dX11_look_20 (by decide) ?_
        exact hend (-100 : Int32) 22 ls (Option.some.inj hf) dX11_look_22
      · rw [if_neg c_11] at hf
        refine lv_iload hx hb dX11_look_14 (lv_at hl 4 rfl) ?_
        refine lv_iconst (v := 1) hx hb dX11_look_16 (by decide) ?_
        refine lv_icmp_le (tgt := 23) hx hb dX11_look_17 (by decide) (fun c_17 => ?_) (fun c_17 => ?_)
        · rw [if_pos c_17] at hf
          refine lv_aload_n hx hb dX11_look_23 rfl (lv_at hl 0 rfl) ?_
          refine fg_X11_walk S hK hP tf_X11_28 dX11_look_24 ?_
          refine lv_iload_n hx hb dX11_look_27 rfl (lv_at hl 1 rfl) ?_
          refine lv_i2l hx hb dX11_look_28 rfl ?_
          refine lv_bipush (v := 32) hx hb dX11_look_29 (by decide) ?_
          refine lv_lshl (v := (j_lshl a0.toInt64 (32 : Int32))) hx hb dX11_look_31 rfl ?_
          refine lv_iload_n hx hb dX11_look_32 rfl (lv_at hl 2 rfl) ?_
          refine lv_i2l hx hb dX11_look_33 rfl ?_
          refine lv_ldc2 (v := 4294967295) hx hb hown (hts _ tk_X11_53) dX11_look_34 ?_
          refine lv_land hx hb dX11_look_37 ?_
          refine lv_lor hx hb dX11_look_38 ?_
          refine lv_iconst (v := 1) hx hb dX11_look_39 (by decide) ?_
          refine lv_iload_n hx hb dX11_look_40 rfl (lv_at hl 3 rfl) ?_
          refine lv_iload hx hb dX11_look_41 (lv_at hl 4 rfl) ?_
          obtain ⟨v1, e_v1, hf⟩ := Option.bind_eq_some_iff.mp hf
          refine k_X10_find (a0 := ((j_lshl a0.toInt64 (32 : Int32)) ||| (a1.toInt64 &&& (4294967295 : Int64)))) (a1 := (1 : Int32)) (a2 := a2) (a3 := a3) (res := v1) (hres := e_v1) S hK hP tl_X11_88 ⟨Nat.le_of_ble_eq_true rfl, Nat.le_of_ble_eq_true rfl⟩ hl.1 (Nat.le_of_ble_eq_true rfl) dX11_look_43 ?_
          exact hend v1 46 ls (Option.some.inj hf) dX11_look_46
        · rw [if_neg c_17] at hf
          refine lv_bipush (v := -100) hx hb dX11_look_20 (by decide) ?_
          exact hend (-100 : Int32) 22 ls (Option.some.inj hf) dX11_look_22
theorem k_X11_look {p : Program} {l : Launch} {e : Env} {R : Room} {s : State} {m : MethodId} {args : Array Value} {below : List Frame} {meth : Method} {c : Code} {H : Heap} {locs : List Loc} {Q : State → Prop} {cc : ByteArray} {pc : Nat} {ls : Array Slot} {rest : List Value} {own : String} {index nL : Nat} {z : Cx} {r : Nat → Nat} {σ : XS} {a0 : Int32} {a1 : Int32} {a2 : Int32} {a3 : Int32} {res : Int32} (hres : F_X11_look σ a0 a1 a2 a3 = some res) (S : CallFix p m c cc nL s args tbG own) (hK : va_K z.1 vwCl (cxT z) s) (hP : va_P z.1 vwCl (xW z r σ) H) (hl : Cond.methodLink own index yX11_look ∈ tbG) (hR : 4 + 1 ≤ R.frames ∧ 8 + (5 + 11) + 110 ≤ R.locals) (hsz : ls.size = nL) (hcat : (rest.map fun v => v.category).sum ≤ 8) (hdg : decode cc pc = .ok (.invokevirtual index, 3)) (kk : W p l e R s m args below meth c H locs 0 0 Q (F0 m (pc + 3) ls (.int res :: rest))) : W p l e R s m args below meth c H locs 0 0 Q (F0 m pc ls (.int a3 :: .int a2 :: .int a1 :: .int a0 :: .ref (r 0) :: rest)) :=
  kr (As := [.int a0, .int a1, .int a2, .int a3]) (ov := some (.int res)) (q0 := 0) (ci := 10) S hK hP (c_X11_look l z r σ a0 a1 a2 a3 _ hres) ⟨tb_cB 4 S.2.2.2.2 tc_X11_look ti_X11 hl rfl rfl (by decide +kernel) hR, S.2.2.2.2 _ tm_X11_look, S.2.2.2.2 _ te_X11_look⟩ rfl rfl rfl rfl hsz rfl hcat hdg kk

theorem dX12_poke_0 : decode cX12_poke 0 = .ok (.aload_n 0, 1) := by decide +kernel
theorem dX12_poke_1 : decode cX12_poke 1 = .ok (.iconst 0, 1) := by decide +kernel
theorem dX12_poke_2 : decode cX12_poke 2 = .ok (.putfield 7, 3) := by decide +kernel
theorem dX12_poke_5 : decode cX12_poke 5 = .ok (.iload_n 1, 1) := by decide +kernel
theorem dX12_poke_6 : decode cX12_poke 6 = .ok (.ifCond .lt 15, 3) := by decide +kernel
theorem dX12_poke_9 : decode cX12_poke 9 = .ok (.iload_n 1, 1) := by decide +kernel
theorem dX12_poke_10 : decode cX12_poke 10 = .ok (.ldc 63, 2) := by decide +kernel
theorem dX12_poke_12 : decode cX12_poke 12 = .ok (.if_icmp .gt 9, 3) := by decide +kernel
theorem dX12_poke_15 : decode cX12_poke 15 = .ok (.iload_n 1, 1) := by decide +kernel
theorem dX12_poke_16 : decode cX12_poke 16 = .ok (.iconst 3, 1) := by decide +kernel
theorem dX12_poke_17 : decode cX12_poke 17 = .ok (.iand, 1) := by decide +kernel
theorem dX12_poke_18 : decode cX12_poke 18 = .ok (.ifCond .eq 5, 3) := by decide +kernel
theorem dX12_poke_21 : decode cX12_poke 21 = .ok (.iconst 0, 1) := by decide +kernel
theorem dX12_poke_22 : decode cX12_poke 22 = .ok (.ireturn, 1) := by decide +kernel
theorem dX12_poke_23 : decode cX12_poke 23 = .ok (.iconst 0, 1) := by decide +kernel
theorem dX12_poke_24 : decode cX12_poke 24 = .ok (.istore_n 3, 1) := by decide +kernel
theorem dX12_poke_25 : decode cX12_poke 25 = .ok (.iload_n 3, 1) := by decide +kernel
theorem dX12_poke_26 : decode cX12_poke 26 = .ok (.iconst 4, 1) := by decide +kernel
theorem dX12_poke_27 : decode cX12_poke 27 = .ok (.if_icmp .ge 27, 3) := by decide +kernel
theorem dX12_poke_30 : decode cX12_poke 30 = .ok (.aload_n 0, 1) := by decide +kernel
theorem dX12_poke_31 : decode cX12_poke 31 = .ok (.getfield 14, 3) := by decide +kernel
theorem dX12_poke_34 : decode cX12_poke 34 = .ok (.iload_n 1, 1) := by decide +kernel
theorem dX12_poke_35 : decode cX12_poke 35 = .ok (.iload_n 3, 1) := by decide +kernel
theorem dX12_poke_36 : decode cX12_poke 36 = .ok (.iadd, 1) := by decide +kernel
theorem dX12_poke_37 : decode cX12_poke 37 = .ok (.iload_n 2, 1) := by decide +kernel
theorem dX12_poke_38 : decode cX12_poke 38 = .ok (.bipush 8, 2) := by decide +kernel
theorem dX12_poke_40 : decode cX12_poke 40 = .ok (.iload_n 3, 1) := by decide +kernel
theorem dX12_poke_41 : decode cX12_poke 41 = .ok (.imul, 1) := by decide +kernel
theorem dX12_poke_42 : decode cX12_poke 42 = .ok (.ishr, 1) := by decide +kernel
theorem dX12_poke_43 : decode cX12_poke 43 = .ok (.sipush 255, 3) := by decide +kernel
theorem dX12_poke_46 : decode cX12_poke 46 = .ok (.iand, 1) := by decide +kernel
theorem dX12_poke_47 : decode cX12_poke 47 = .ok (.iastore, 1) := by decide +kernel
theorem dX12_poke_48 : decode cX12_poke 48 = .ok (.iinc 3 1, 3) := by decide +kernel
theorem dX12_poke_51 : decode cX12_poke 51 = .ok (.goto (-26), 3) := by decide +kernel
theorem dX12_poke_54 : decode cX12_poke 54 = .ok (.iconst 1, 1) := by decide +kernel
theorem dX12_poke_55 : decode cX12_poke 55 = .ok (.ireturn, 1) := by decide +kernel
def F_X12_poke_c25 : Nat → MS → Int32 → Int32 → Int32 → Option (Bool × MS)
  | 0, _, _, _, _ => none
  | n + 1, τ, a0, a1, w3 => (if (4 : Int32) ≤ w3 then some ((true, τ)) else (if ((a0 + w3) < 0 ∨ 65536 ≤ (a0 + w3).toNatClampNeg) then none else (F_X12_poke_c25 n (mu_mem τ (upd (m_mem τ) (a0 + w3).toNatClampNeg ((a1 >>> (((8 : Int32) * w3) &&& 31)) &&& (255 : Int32)))) a0 a1 (w3 + (1)))))
def F_X12_poke (σ : MS) (a0 : Int32) (a1 : Int32) : Option (Bool × MS) := (if a0 < 0 then some ((false, (mu_thrownCode σ (0 : Int32)))) else (if (65532 : Int32) < a0 then some ((false, (mu_thrownCode σ (0 : Int32)))) else (if (a0 &&& (3 : Int32)) = 0 then (F_X12_poke_c25 70 (mu_thrownCode σ (0 : Int32)) a0 a1 (0 : Int32)) else some ((false, (mu_thrownCode σ (0 : Int32)))))))
set_option maxHeartbeats 4000000 in
set_option maxRecDepth 100000 in
theorem c_X12_poke (l : Launch) (z : Cx) (r : Nat → Nat) (σ : MS) (a0 : Int32) (a1 : Int32) (sz : Nat) (res : Bool × MS) (hf : F_X12_poke σ a0 a1 = some res) : Met l yX12_poke (wsC yX12_poke cX12_poke 4 (some .boolean)) { frames := 0, cells := 0, slots := 0, locals := 0 } (mPc z (mW z r σ) sz [.ref (r 0), .int a0, .int a1]) (gM z (va_A (mW z r σ) sz) (some (.int (zB res.1))) (mW z r res.2)) 0 0 (va_A (mW z r σ) sz) := by
  refine mk_m_z (own := RX12) (wf := mW z r) (by decide) rfl sz _ (Nat.le_of_ble_eq_true rfl) (fun p e s m below meth c A H locs Q ls S hK hA hP hD hS hl hend => ?_)
  have hx := S.1
  have hb := S.2.1
  have hown := S.2.2.2.1
  have hts := S.2.2.2.2
  have hl : lv_has ls 4 [(0, .ref (r 0)), (1, .int a0), (2, .int a1)] := hl
  have J_c25 : ∀ (n : Nat) (τ : MS) (w3 : Int32) (H : Heap) (locs : List Loc) (ls : Array Slot), F_X12_poke_c25 n τ a0 a1 w3 = some res → va_P z.1 vwCl (mW z r τ) H → va_D A (mW z r τ) → va_S A s.heap H locs → lv_has ls 4 [(0, .ref (r 0)), (1, .int a0), (2, .int a1), (3, .int w3)] → W p l e { frames := 0, cells := 0, slots := 0, locals := 0 } s m ([.ref (r 0), .int a0, .int a1] : List Value).toArray below meth c H locs 0 0 Q (F0 m 25 ls []) := by
    intro n
    induction n with
    | zero => intro τ w3 H locs ls hf; rw [F_X12_poke_c25] at hf; cases hf
    | succ n ih =>
      intro τ w3 H locs ls hf hP hD hS hl
      rw [F_X12_poke_c25] at hf
      refine lv_iload_n hx hb dX12_poke_25 rfl (lv_at hl 3 rfl) ?_
      refine lv_iconst (v := 4) hx hb dX12_poke_26 (by decide) ?_
      refine lv_icmp_ge (tgt := 54) hx hb dX12_poke_27 (by decide) (fun c_27 => ?_) (fun c_27 => ?_)
      · rw [if_pos c_27] at hf
        refine lv_iconst (v := 1) hx hb dX12_poke_54 (by decide) ?_
        exact hend true τ H locs 55 ls (Option.some.inj hf) hP hD hS dX12_poke_55
      · rw [if_neg c_27] at hf
        refine lv_aload_n hx hb dX12_poke_30 rfl (lv_at hl 0 rfl) ?_
        refine fg_X12_mem S hK hP tf_X12_14 dX12_poke_31 ?_
        refine lv_iload_n hx hb dX12_poke_34 rfl (lv_at hl 1 rfl) ?_
        refine lv_iload_n hx hb dX12_poke_35 rfl (lv_at hl 3 rfl) ?_
        refine lv_iadd hx hb dX12_poke_36 ?_
        refine lv_iload_n hx hb dX12_poke_37 rfl (lv_at hl 2 rfl) ?_
        refine lv_bipush (v := 8) hx hb dX12_poke_38 (by decide) ?_
        refine lv_iload_n hx hb dX12_poke_40 rfl (lv_at hl 3 rfl) ?_
        refine lv_imul hx hb dX12_poke_41 ?_
        refine lv_ishr hx hb dX12_poke_42 ?_
        refine lv_sipush (v := 255) hx hb dX12_poke_43 (by decide) ?_
        refine lv_iand hx hb dX12_poke_46 ?_
        by_cases c_47 : ((a0 + w3) < 0 ∨ 65536 ≤ (a0 + w3).toNatClampNeg)
        · rw [if_pos c_47] at hf
          cases hf
        rw [if_neg c_47] at hf
        refine ar_m_mem (x := ((a1 >>> (((8 : Int32) * w3) &&& 31)) &&& (255 : Int32))) S hK hP hD hS c_47 dX12_poke_47 (fun H locs hP hD hS => ?_)
        refine lv_iinc (v := w3 + (1)) (lv' := [(3, .int (w3 + (1))), (0, .ref (r 0)), (1, .int a0), (2, .int a1)]) hx hb dX12_poke_48 hl (k := 3) rfl rfl (by decide) rfl (fun ls hl => ?_)
        refine lv_goto (tgt := 25) hx hb dX12_poke_51 (by decide) ?_
        exact ih (mu_mem τ (upd (m_mem τ) (a0 + w3).toNatClampNeg ((a1 >>> (((8 : Int32) * w3) &&& 31)) &&& (255 : Int32)))) (w3 + (1)) H locs ls hf hP hD hS (lv_sub hl [1, 2, 3, 0] rfl)
  unfold F_X12_poke at hf
  refine lv_aload_n hx hb dX12_poke_0 rfl (lv_at hl 0 rfl) ?_
  refine lv_iconst (v := 0) hx hb dX12_poke_1 (by decide) ?_
  refine fp_X12_thrownCode (v := (0 : Int32)) S hK hP hD hS tf_X12_7 dX12_poke_2 (fun H locs hP hD hS => ?_)
  refine lv_iload_n hx hb dX12_poke_5 rfl (lv_at hl 1 rfl) ?_
  refine lv_if_lt (tgt := 21) hx hb dX12_poke_6 (by decide) (fun c_6 => ?_) (fun c_6 => ?_)
  · rw [if_pos c_6] at hf
    refine lv_iconst (v := 0) hx hb dX12_poke_21 (by decide) ?_
    exact hend false (mu_thrownCode σ (0 : Int32)) H locs 22 ls (Option.some.inj hf) hP hD hS dX12_poke_22
  · rw [if_neg c_6] at hf
    refine lv_iload_n hx hb dX12_poke_9 rfl (lv_at hl 1 rfl) ?_
    refine lv_ldc (v := 65532) hx hb hown (hts _ tk_X12_63) dX12_poke_10 ?_
    refine lv_icmp_gt (tgt := 21) hx hb dX12_poke_12 (by decide) (fun c_12 => ?_) (fun c_12 => ?_)
    · rw [if_pos c_12] at hf
      refine lv_iconst (v := 0) hx hb dX12_poke_21 (by decide) ?_
      exact hend false (mu_thrownCode σ (0 : Int32)) H locs 22 ls (Option.some.inj hf) hP hD hS dX12_poke_22
    · rw [if_neg c_12] at hf
      refine lv_iload_n hx hb dX12_poke_15 rfl (lv_at hl 1 rfl) ?_
      refine lv_iconst (v := 3) hx hb dX12_poke_16 (by decide) ?_
      refine lv_iand hx hb dX12_poke_17 ?_
      refine lv_if_eq (tgt := 23) hx hb dX12_poke_18 (by decide) (fun c_18 => ?_) (fun c_18 => ?_)
      · rw [if_pos c_18] at hf
        refine lv_iconst (v := 0) hx hb dX12_poke_23 (by decide) ?_
        refine lv_istore_n (lv' := [(3, .int (0 : Int32)), (0, .ref (r 0)), (1, .int a0), (2, .int a1)]) hx hb dX12_poke_24 rfl hl (by decide) rfl (fun ls hl => ?_)
        exact J_c25 70 (mu_thrownCode σ (0 : Int32)) (0 : Int32) H locs ls hf hP hD hS (lv_sub hl [1, 2, 3, 0] rfl)
      · rw [if_neg c_18] at hf
        refine lv_iconst (v := 0) hx hb dX12_poke_21 (by decide) ?_
        exact hend false (mu_thrownCode σ (0 : Int32)) H locs 22 ls (Option.some.inj hf) hP hD hS dX12_poke_22
theorem k_X12_poke {p : Program} {l : Launch} {e : Env} {R : Room} {s : State} {m : MethodId} {args : Array Value} {below : List Frame} {meth : Method} {c : Code} {H : Heap} {locs : List Loc} {Q : State → Prop} {cc : ByteArray} {pc : Nat} {ls : Array Slot} {rest : List Value} {own : String} {index nL : Nat} {A : Nat → Prop} {z : Cx} {r : Nat → Nat} {σ : MS} {a0 : Int32} {a1 : Int32} {res : Bool × MS} (hres : F_X12_poke σ a0 a1 = some res) (S : CallFix p m c cc nL s args tbG own) (hK : va_K z.1 vwCl (cxT z) s) (hA : ∀ q, s.heap.size ≤ q → A q) (hP : va_P z.1 vwCl (mW z r σ) H) (hD : va_D A (mW z r σ)) (hS : va_S A s.heap H locs) (hl : Cond.methodLink own index yX12_poke ∈ tbG) (hR : 0 + 1 ≤ R.frames ∧ 8 + (4 + 11) + 0 ≤ R.locals) (hsz : ls.size = nL) (hcat : (rest.map fun v => v.category).sum ≤ 8) (hdg : decode cc pc = .ok (.invokevirtual index, 3)) (kk : ∀ (H : Heap) (locs : List Loc), va_P z.1 vwCl (mW z r res.2) H → va_D A (mW z r res.2) → va_S A s.heap H locs → W p l e R s m args below meth c H locs 0 0 Q (F0 m (pc + 3) ls (.int (zB res.1) :: rest))) : W p l e R s m args below meth c H locs 0 0 Q (F0 m pc ls (.int a1 :: .int a0 :: .ref (r 0) :: rest)) :=
  km (As := [.int a0, .int a1]) (ov := some (.int (zB res.1))) (w' := mW z r res.2) (q0 := 0) (ci := 11) S hK hA hP hD hS (c_X12_poke l z r σ a0 a1 H.size _ hres) ⟨tb_cB 2 S.2.2.2.2 tc_X12_poke ti_X12 hl rfl rfl (by decide +kernel) hR, S.2.2.2.2 _ tm_X12_poke, S.2.2.2.2 _ te_X12_poke⟩ rfl rfl rfl rfl hsz rfl hcat hdg kk

theorem dX12_bytes_0 : decode cX12_bytes 0 = .ok (.lconst 0, 1) := by decide +kernel
theorem dX12_bytes_1 : decode cX12_bytes 1 = .ok (.lstore_n 3, 1) := by decide +kernel
theorem dX12_bytes_2 : decode cX12_bytes 2 = .ok (.iload_n 2, 1) := by decide +kernel
theorem dX12_bytes_3 : decode cX12_bytes 3 = .ok (.iconst 1, 1) := by decide +kernel
theorem dX12_bytes_4 : decode cX12_bytes 4 = .ok (.isub, 1) := by decide +kernel
theorem dX12_bytes_5 : decode cX12_bytes 5 = .ok (.istore 5, 2) := by decide +kernel
theorem dX12_bytes_7 : decode cX12_bytes 7 = .ok (.iload 5, 2) := by decide +kernel
theorem dX12_bytes_9 : decode cX12_bytes 9 = .ok (.ifCond .lt 25, 3) := by decide +kernel
theorem dX12_bytes_12 : decode cX12_bytes 12 = .ok (.lload_n 3, 1) := by decide +kernel
theorem dX12_bytes_13 : decode cX12_bytes 13 = .ok (.bipush 8, 2) := by decide +kernel
theorem dX12_bytes_15 : decode cX12_bytes 15 = .ok (.lshl, 1) := by decide +kernel
theorem dX12_bytes_16 : decode cX12_bytes 16 = .ok (.aload_n 0, 1) := by decide +kernel
theorem dX12_bytes_17 : decode cX12_bytes 17 = .ok (.getfield 14, 3) := by decide +kernel
theorem dX12_bytes_20 : decode cX12_bytes 20 = .ok (.iload_n 1, 1) := by decide +kernel
theorem dX12_bytes_21 : decode cX12_bytes 21 = .ok (.iload 5, 2) := by decide +kernel
theorem dX12_bytes_23 : decode cX12_bytes 23 = .ok (.iadd, 1) := by decide +kernel
theorem dX12_bytes_24 : decode cX12_bytes 24 = .ok (.iaload, 1) := by decide +kernel
theorem dX12_bytes_25 : decode cX12_bytes 25 = .ok (.i2l, 1) := by decide +kernel
theorem dX12_bytes_26 : decode cX12_bytes 26 = .ok (.lor, 1) := by decide +kernel
theorem dX12_bytes_27 : decode cX12_bytes 27 = .ok (.lstore_n 3, 1) := by decide +kernel
theorem dX12_bytes_28 : decode cX12_bytes 28 = .ok (.iinc 5 (-1), 3) := by decide +kernel
theorem dX12_bytes_31 : decode cX12_bytes 31 = .ok (.goto (-24), 3) := by decide +kernel
theorem dX12_bytes_34 : decode cX12_bytes 34 = .ok (.lload_n 3, 1) := by decide +kernel
theorem dX12_bytes_35 : decode cX12_bytes 35 = .ok (.lreturn, 1) := by decide +kernel
def F_X12_bytes_c7 : Nat → MS → Int32 → Int32 → Int64 → Int32 → Option (Int64)
  | 0, _, _, _, _, _ => none
  | n + 1, σ, a0, a1, w3, w5 => (if w5 < 0 then some (w3) else (if ((a0 + w5) < 0 ∨ 65536 ≤ (a0 + w5).toNatClampNeg) then none else (F_X12_bytes_c7 n σ a0 a1 ((j_lshl w3 (8 : Int32)) ||| (m_mem σ (a0 + w5).toNatClampNeg).toInt64) (w5 + (-1)))))
def F_X12_bytes (σ : MS) (a0 : Int32) (a1 : Int32) : Option (Int64) := (F_X12_bytes_c7 70 σ a0 a1 (0 : Int64) (a1 - (1 : Int32)))
set_option maxHeartbeats 4000000 in
set_option maxRecDepth 100000 in
theorem c_X12_bytes (l : Launch) (z : Cx) (r : Nat → Nat) (σ : MS) (a0 : Int32) (a1 : Int32) (res : Int64) (hf : F_X12_bytes σ a0 a1 = some res) : Met l yX12_bytes (wsC yX12_bytes cX12_bytes 6 (some .long)) { frames := 0, cells := 0, slots := 0, locals := 0 } (rPc z (mW z r σ) [.ref (r 0), .int a0, .int a1]) (gS (some (.long res))) 0 0 (fun _ => False) := by
  refine mk_r_l (own := RX12) (by decide) rfl _ (Nat.le_of_ble_eq_true rfl) (fun p e s m below meth c H locs Q ls S hK hP hl hend => ?_)
  have hx := S.1
  have hb := S.2.1
  have hown := S.2.2.2.1
  have hts := S.2.2.2.2
  have hl : lv_has ls 6 [(0, .ref (r 0)), (1, .int a0), (2, .int a1)] := hl
  have J_c7 : ∀ (n : Nat) (w3 : Int64) (w5 : Int32) (ls : Array Slot), F_X12_bytes_c7 n σ a0 a1 w3 w5 = some res → lv_has ls 6 [(0, .ref (r 0)), (1, .int a0), (3, .long w3), (5, .int w5)] → W p l e { frames := 0, cells := 0, slots := 0, locals := 0 } s m ([.ref (r 0), .int a0, .int a1] : List Value).toArray below meth c H locs 0 0 Q (F0 m 7 ls []) := by
    intro n
    induction n with
    | zero => intro w3 w5 ls hf; rw [F_X12_bytes_c7] at hf; cases hf
    | succ n ih =>
      intro w3 w5 ls hf hl
      rw [F_X12_bytes_c7] at hf
      refine lv_iload hx hb dX12_bytes_7 (lv_at hl 3 rfl) ?_
      refine lv_if_lt (tgt := 34) hx hb dX12_bytes_9 (by decide) (fun c_9 => ?_) (fun c_9 => ?_)
      · rw [if_pos c_9] at hf
        refine lv_lload_n hx hb dX12_bytes_34 rfl (lv_at hl 2 rfl) ?_
        exact hend w3 35 ls (Option.some.inj hf) dX12_bytes_35
      · rw [if_neg c_9] at hf
        refine lv_lload_n hx hb dX12_bytes_12 rfl (lv_at hl 2 rfl) ?_
        refine lv_bipush (v := 8) hx hb dX12_bytes_13 (by decide) ?_
        refine lv_lshl (v := (j_lshl w3 (8 : Int32))) hx hb dX12_bytes_15 rfl ?_
        refine lv_aload_n hx hb dX12_bytes_16 rfl (lv_at hl 0 rfl) ?_
        refine fg_X12_mem S hK hP tf_X12_14 dX12_bytes_17 ?_
        refine lv_iload_n hx hb dX12_bytes_20 rfl (lv_at hl 1 rfl) ?_
        refine lv_iload hx hb dX12_bytes_21 (lv_at hl 3 rfl) ?_
        refine lv_iadd hx hb dX12_bytes_23 ?_
        by_cases c_24 : ((a0 + w5) < 0 ∨ 65536 ≤ (a0 + w5).toNatClampNeg)
        · rw [if_pos c_24] at hf
          cases hf
        rw [if_neg c_24] at hf
        refine al_m_mem S hK hP c_24 dX12_bytes_24 ?_
        refine lv_i2l hx hb dX12_bytes_25 rfl ?_
        refine lv_lor hx hb dX12_bytes_26 ?_
        refine lv_lstore_n (lv' := [(3, .long ((j_lshl w3 (8 : Int32)) ||| (m_mem σ (a0 + w5).toNatClampNeg).toInt64)), (0, .ref (r 0)), (1, .int a0), (5, .int w5)]) hx hb dX12_bytes_27 rfl hl (by decide) rfl (fun ls hl => ?_)
        refine lv_iinc (v := w5 + (-1)) (lv' := [(5, .int (w5 + (-1))), (3, .long ((j_lshl w3 (8 : Int32)) ||| (m_mem σ (a0 + w5).toNatClampNeg).toInt64)), (0, .ref (r 0)), (1, .int a0)]) hx hb dX12_bytes_28 hl (k := 3) rfl rfl (by decide) rfl (fun ls hl => ?_)
        refine lv_goto (tgt := 7) hx hb dX12_bytes_31 (by decide) ?_
        exact ih ((j_lshl w3 (8 : Int32)) ||| (m_mem σ (a0 + w5).toNatClampNeg).toInt64) (w5 + (-1)) ls hf (lv_sub hl [2, 3, 1, 0] rfl)
  unfold F_X12_bytes at hf
  refine lv_lconst (v := 0) hx hb dX12_bytes_0 (by decide) ?_
  refine lv_lstore_n (lv' := [(3, .long (0 : Int64)), (0, .ref (r 0)), (1, .int a0), (2, .int a1)]) hx hb dX12_bytes_1 rfl hl (by decide) rfl (fun ls hl => ?_)
  refine lv_iload_n hx hb dX12_bytes_2 rfl (lv_at hl 3 rfl) ?_
  refine lv_iconst (v := 1) hx hb dX12_bytes_3 (by decide) ?_
  refine lv_isub hx hb dX12_bytes_4 ?_
  refine lv_istore (lv' := [(5, .int (a1 - (1 : Int32))), (3, .long (0 : Int64)), (0, .ref (r 0)), (1, .int a0), (2, .int a1)]) hx hb dX12_bytes_5 hl (by decide) rfl (fun ls hl => ?_)
  exact J_c7 70 (0 : Int64) (a1 - (1 : Int32)) ls hf (lv_sub hl [2, 3, 1, 0] rfl)
theorem k_X12_bytes {p : Program} {l : Launch} {e : Env} {R : Room} {s : State} {m : MethodId} {args : Array Value} {below : List Frame} {meth : Method} {c : Code} {H : Heap} {locs : List Loc} {Q : State → Prop} {cc : ByteArray} {pc : Nat} {ls : Array Slot} {rest : List Value} {own : String} {index nL : Nat} {z : Cx} {r : Nat → Nat} {σ : MS} {a0 : Int32} {a1 : Int32} {res : Int64} (hres : F_X12_bytes σ a0 a1 = some res) (S : CallFix p m c cc nL s args tbG own) (hK : va_K z.1 vwCl (cxT z) s) (hP : va_P z.1 vwCl (mW z r σ) H) (hl : Cond.methodLink own index yX12_bytes ∈ tbG) (hR : 0 + 1 ≤ R.frames ∧ 8 + (6 + 11) + 0 ≤ R.locals) (hsz : ls.size = nL) (hcat : (rest.map fun v => v.category).sum ≤ 8) (hdg : decode cc pc = .ok (.invokevirtual index, 3)) (kk : W p l e R s m args below meth c H locs 0 0 Q (F0 m (pc + 3) ls (.long res :: rest))) : W p l e R s m args below meth c H locs 0 0 Q (F0 m pc ls (.int a1 :: .int a0 :: .ref (r 0) :: rest)) :=
  kr (As := [.int a0, .int a1]) (ov := some (.long res)) (q0 := 0) (ci := 11) S hK hP (c_X12_bytes l z r σ a0 a1 _ hres) ⟨tb_cB 2 S.2.2.2.2 tc_X12_bytes ti_X12 hl rfl rfl (by decide +kernel) hR, S.2.2.2.2 _ tm_X12_bytes, S.2.2.2.2 _ te_X12_bytes⟩ rfl rfl rfl rfl hsz rfl hcat hdg kk

theorem dX12_peek_0 : decode cX12_peek 0 = .ok (.aload_n 0, 1) := by decide +kernel
theorem dX12_peek_1 : decode cX12_peek 1 = .ok (.iconst 0, 1) := by decide +kernel
theorem dX12_peek_2 : decode cX12_peek 2 = .ok (.putfield 7, 3) := by decide +kernel
theorem dX12_peek_5 : decode cX12_peek 5 = .ok (.iload_n 1, 1) := by decide +kernel
theorem dX12_peek_6 : decode cX12_peek 6 = .ok (.ifCond .lt 15, 3) := by decide +kernel
theorem dX12_peek_9 : decode cX12_peek 9 = .ok (.iload_n 1, 1) := by decide +kernel
theorem dX12_peek_10 : decode cX12_peek 10 = .ok (.ldc 63, 2) := by decide +kernel
theorem dX12_peek_12 : decode cX12_peek 12 = .ok (.if_icmp .gt 9, 3) := by decide +kernel
theorem dX12_peek_15 : decode cX12_peek 15 = .ok (.iload_n 1, 1) := by decide +kernel
theorem dX12_peek_16 : decode cX12_peek 16 = .ok (.iconst 3, 1) := by decide +kernel
theorem dX12_peek_17 : decode cX12_peek 17 = .ok (.iand, 1) := by decide +kernel
theorem dX12_peek_18 : decode cX12_peek 18 = .ok (.ifCond .eq 5, 3) := by decide +kernel
theorem dX12_peek_21 : decode cX12_peek 21 = .ok (.iconst 0, 1) := by decide +kernel
theorem dX12_peek_22 : decode cX12_peek 22 = .ok (.ireturn, 1) := by decide +kernel
theorem dX12_peek_23 : decode cX12_peek 23 = .ok (.aload_n 0, 1) := by decide +kernel
theorem dX12_peek_24 : decode cX12_peek 24 = .ok (.iload_n 1, 1) := by decide +kernel
theorem dX12_peek_25 : decode cX12_peek 25 = .ok (.iconst 4, 1) := by decide +kernel
theorem dX12_peek_26 : decode cX12_peek 26 = .ok (.invokevirtual 64, 3) := by decide +kernel
theorem dX12_peek_29 : decode cX12_peek 29 = .ok (.l2i, 1) := by decide +kernel
theorem dX12_peek_30 : decode cX12_peek 30 = .ok (.ireturn, 1) := by decide +kernel
def F_X12_peek (σ : MS) (a0 : Int32) : Option (Int32 × MS) := (if a0 < 0 then some (((0 : Int32), (mu_thrownCode σ (0 : Int32)))) else (if (65532 : Int32) < a0 then some (((0 : Int32), (mu_thrownCode σ (0 : Int32)))) else (if (a0 &&& (3 : Int32)) = 0 then ((F_X12_bytes (mu_thrownCode σ (0 : Int32)) a0 (4 : Int32)).bind fun v1 => some ((v1.toInt32, (mu_thrownCode σ (0 : Int32))))) else some (((0 : Int32), (mu_thrownCode σ (0 : Int32)))))))
set_option maxHeartbeats 4000000 in
set_option maxRecDepth 100000 in
theorem c_X12_peek (l : Launch) (z : Cx) (r : Nat → Nat) (σ : MS) (a0 : Int32) (sz : Nat) (res : Int32 × MS) (hf : F_X12_peek σ a0 = some res) : Met l yX12_peek (wsC yX12_peek cX12_peek 2 (some .int)) { frames := 1, cells := 0, slots := 0, locals := 25 } (mPc z (mW z r σ) sz [.ref (r 0), .int a0]) (gM z (va_A (mW z r σ) sz) (some (.int res.1)) (mW z r res.2)) 0 0 (va_A (mW z r σ) sz) := by
  refine mk_m_i (own := RX12) (wf := mW z r) (by decide) rfl sz _ (Nat.le_of_ble_eq_true rfl) (fun p e s m below meth c A H locs Q ls S hK hA hP hD hS hl hend => ?_)
  have hx := S.1
  have hb := S.2.1
  have hown := S.2.2.2.1
  have hts := S.2.2.2.2
  have hl : lv_has ls 2 [(0, .ref (r 0)), (1, .int a0)] := hl
  unfold F_X12_peek at hf
  refine lv_aload_n hx hb dX12_peek_0 rfl (lv_at hl 0 rfl) ?_
  refine lv_iconst (v := 0) hx hb dX12_peek_1 (by decide) ?_
  refine fp_X12_thrownCode (v := (0 : Int32)) S hK hP hD hS tf_X12_7 dX12_peek_2 (fun H locs hP hD hS => ?_)
  refine lv_iload_n hx hb dX12_peek_5 rfl (lv_at hl 1 rfl) ?_
  refine lv_if_lt (tgt := 21) hx hb dX12_peek_6 (by decide) (fun c_6 => ?_) (fun c_6 => ?_)
  · rw [if_pos c_6] at hf
    refine lv_iconst (v := 0) hx hb dX12_peek_21 (by decide) ?_
    exact hend (0 : Int32) (mu_thrownCode σ (0 : Int32)) H locs 22 ls (Option.some.inj hf) hP hD hS dX12_peek_22
  · rw [if_neg c_6] at hf
    refine lv_iload_n hx hb dX12_peek_9 rfl (lv_at hl 1 rfl) ?_
    refine lv_ldc (v := 65532) hx hb hown (hts _ tk_X12_63) dX12_peek_10 ?_
    refine lv_icmp_gt (tgt := 21) hx hb dX12_peek_12 (by decide) (fun c_12 => ?_) (fun c_12 => ?_)
    · rw [if_pos c_12] at hf
      refine lv_iconst (v := 0) hx hb dX12_peek_21 (by decide) ?_
      exact hend (0 : Int32) (mu_thrownCode σ (0 : Int32)) H locs 22 ls (Option.some.inj hf) hP hD hS dX12_peek_22
    · rw [if_neg c_12] at hf
      refine lv_iload_n hx hb dX12_peek_15 rfl (lv_at hl 1 rfl) ?_
      refine lv_iconst (v := 3) hx hb dX12_peek_16 (by decide) ?_
      refine lv_iand hx hb dX12_peek_17 ?_
      refine lv_if_eq (tgt := 23) hx hb dX12_peek_18 (by decide) (fun c_18 => ?_) (fun c_18 => ?_)
      · rw [if_pos c_18] at hf
        refine lv_aload_n hx hb dX12_peek_23 rfl (lv_at hl 0 rfl) ?_
        refine lv_iload_n hx hb dX12_peek_24 rfl (lv_at hl 1 rfl) ?_
        refine lv_iconst (v := 4) hx hb dX12_peek_25 (by decide) ?_
        obtain ⟨v1, e_v1, hf⟩ := Option.bind_eq_some_iff.mp hf
        refine k_X12_bytes (a0 := a0) (a1 := (4 : Int32)) (res := v1) (hres := e_v1) S hK hP tl_X12_64 ⟨Nat.le_of_ble_eq_true rfl, Nat.le_of_ble_eq_true rfl⟩ hl.1 (Nat.le_of_ble_eq_true rfl) dX12_peek_26 ?_
        refine lv_l2i hx hb dX12_peek_29 rfl ?_
        exact hend v1.toInt32 (mu_thrownCode σ (0 : Int32)) H locs 30 ls (Option.some.inj hf) hP hD hS dX12_peek_30
      · rw [if_neg c_18] at hf
        refine lv_iconst (v := 0) hx hb dX12_peek_21 (by decide) ?_
        exact hend (0 : Int32) (mu_thrownCode σ (0 : Int32)) H locs 22 ls (Option.some.inj hf) hP hD hS dX12_peek_22
theorem k_X12_peek {p : Program} {l : Launch} {e : Env} {R : Room} {s : State} {m : MethodId} {args : Array Value} {below : List Frame} {meth : Method} {c : Code} {H : Heap} {locs : List Loc} {Q : State → Prop} {cc : ByteArray} {pc : Nat} {ls : Array Slot} {rest : List Value} {own : String} {index nL : Nat} {A : Nat → Prop} {z : Cx} {r : Nat → Nat} {σ : MS} {a0 : Int32} {res : Int32 × MS} (hres : F_X12_peek σ a0 = some res) (S : CallFix p m c cc nL s args tbG own) (hK : va_K z.1 vwCl (cxT z) s) (hA : ∀ q, s.heap.size ≤ q → A q) (hP : va_P z.1 vwCl (mW z r σ) H) (hD : va_D A (mW z r σ)) (hS : va_S A s.heap H locs) (hl : Cond.methodLink own index yX12_peek ∈ tbG) (hR : 1 + 1 ≤ R.frames ∧ 8 + (2 + 11) + 25 ≤ R.locals) (hsz : ls.size = nL) (hcat : (rest.map fun v => v.category).sum ≤ 8) (hdg : decode cc pc = .ok (.invokevirtual index, 3)) (kk : ∀ (H : Heap) (locs : List Loc), va_P z.1 vwCl (mW z r res.2) H → va_D A (mW z r res.2) → va_S A s.heap H locs → W p l e R s m args below meth c H locs 0 0 Q (F0 m (pc + 3) ls (.int res.1 :: rest))) : W p l e R s m args below meth c H locs 0 0 Q (F0 m pc ls (.int a0 :: .ref (r 0) :: rest)) :=
  km (As := [.int a0]) (ov := some (.int res.1)) (w' := mW z r res.2) (q0 := 0) (ci := 11) S hK hA hP hD hS (c_X12_peek l z r σ a0 H.size _ hres) ⟨tb_cB 1 S.2.2.2.2 tc_X12_peek ti_X12 hl rfl rfl (by decide +kernel) hR, S.2.2.2.2 _ tm_X12_peek, S.2.2.2.2 _ te_X12_peek⟩ rfl rfl rfl rfl hsz rfl hcat hdg kk

theorem dX12_isBelow_0 : decode cX12_isBelow 0 = .ok (.lload_n 0, 1) := by decide +kernel
theorem dX12_isBelow_1 : decode cX12_isBelow 1 = .ok (.lconst 0, 1) := by decide +kernel
theorem dX12_isBelow_2 : decode cX12_isBelow 2 = .ok (.lcmp, 1) := by decide +kernel
theorem dX12_isBelow_3 : decode cX12_isBelow 3 = .ok (.ifCond .lt 13, 3) := by decide +kernel
theorem dX12_isBelow_6 : decode cX12_isBelow 6 = .ok (.lload_n 0, 1) := by decide +kernel
theorem dX12_isBelow_7 : decode cX12_isBelow 7 = .ok (.lload_n 2, 1) := by decide +kernel
theorem dX12_isBelow_8 : decode cX12_isBelow 8 = .ok (.lcmp, 1) := by decide +kernel
theorem dX12_isBelow_9 : decode cX12_isBelow 9 = .ok (.ifCond .ge 7, 3) := by decide +kernel
theorem dX12_isBelow_12 : decode cX12_isBelow 12 = .ok (.iconst 1, 1) := by decide +kernel
theorem dX12_isBelow_13 : decode cX12_isBelow 13 = .ok (.goto 4, 3) := by decide +kernel
theorem dX12_isBelow_16 : decode cX12_isBelow 16 = .ok (.iconst 0, 1) := by decide +kernel
theorem dX12_isBelow_17 : decode cX12_isBelow 17 = .ok (.ireturn, 1) := by decide +kernel
def F_X12_isBelow (a0 : Int64) (a1 : Int64) : Bool := (if a0 < (0 : Int64) then false else (if a1 ≤ a0 then false else true))
set_option maxHeartbeats 4000000 in
set_option maxRecDepth 100000 in
theorem c_X12_isBelow (l : Launch) (a0 : Int64) (a1 : Int64) (res : Bool) (hf : F_X12_isBelow a0 a1 = res) : Met l yX12_isBelow (wsC yX12_isBelow cX12_isBelow 4 (some .boolean)) { frames := 0, cells := 0, slots := 0, locals := 0 } (fun v _ => v = ([.long a0, .long a1] : List Value).toArray) (gS (some (.int (zB res)))) 0 0 (fun _ => False) := by
  refine mk_s_z (own := RX12) (by decide) rfl _ (Nat.le_of_ble_eq_true rfl) (fun p e s m below meth c H locs Q ls S hl hend => ?_)
  have hx := S.1
  have hb := S.2.1
  have hown := S.2.2.2.1
  have hts := S.2.2.2.2
  have hl : lv_has ls 4 [(0, .long a0), (2, .long a1)] := hl
  unfold F_X12_isBelow at hf
  refine lv_lload_n hx hb dX12_isBelow_0 rfl (lv_at hl 0 rfl) ?_
  refine lv_lconst (v := 0) hx hb dX12_isBelow_1 (by decide) ?_
  refine gl_lt (tgt := 16) hx hb dX12_isBelow_2 dX12_isBelow_3 (by decide) (fun c_2 => ?_) (fun c_2 => ?_)
  · rw [if_pos c_2] at hf
    refine lv_iconst (v := 0) hx hb dX12_isBelow_16 (by decide) ?_
    exact hend false 17 ls hf dX12_isBelow_17
  · rw [if_neg c_2] at hf
    refine lv_lload_n hx hb dX12_isBelow_6 rfl (lv_at hl 0 rfl) ?_
    refine lv_lload_n hx hb dX12_isBelow_7 rfl (lv_at hl 1 rfl) ?_
    refine gl_ge (tgt := 16) hx hb dX12_isBelow_8 dX12_isBelow_9 (by decide) (fun c_8 => ?_) (fun c_8 => ?_)
    · rw [if_pos c_8] at hf
      refine lv_iconst (v := 0) hx hb dX12_isBelow_16 (by decide) ?_
      exact hend false 17 ls hf dX12_isBelow_17
    · rw [if_neg c_8] at hf
      refine lv_iconst (v := 1) hx hb dX12_isBelow_12 (by decide) ?_
      refine lv_goto (tgt := 17) hx hb dX12_isBelow_13 (by decide) ?_
      exact hend true 17 ls hf dX12_isBelow_17
theorem k_X12_isBelow {p : Program} {l : Launch} {e : Env} {R : Room} {s : State} {m : MethodId} {args : Array Value} {below : List Frame} {meth : Method} {c : Code} {H : Heap} {locs : List Loc} {Q : State → Prop} {cc : ByteArray} {pc : Nat} {ls : Array Slot} {rest : List Value} {own : String} {index nL : Nat} {a0 : Int64} {a1 : Int64} (S : CallFix p m c cc nL s args tbG own) (hl : Cond.methodLink own index yX12_isBelow ∈ tbG) (hR : 0 + 1 ≤ R.frames ∧ 8 + (4 + 11) + 0 ≤ R.locals) (hsz : ls.size = nL) (hcat : (rest.map fun v => v.category).sum ≤ 8) (hdg : decode cc pc = .ok (.invokestatic index, 3)) (kk : W p l e R s m args below meth c H locs 0 0 Q (F0 m (pc + 3) ls (.int (zB (F_X12_isBelow a0 a1)) :: rest))) : W p l e R s m args below meth c H locs 0 0 Q (F0 m pc ls (.long a1 :: .long a0 :: rest)) :=
  ks (As := [.long a0, .long a1]) (ov := some (.int (zB (F_X12_isBelow a0 a1)))) S (c_X12_isBelow l a0 a1 _ rfl) ⟨tb_cB 2 S.2.2.2.2 tc_X12_isBelow ti_X12 hl rfl rfl (by decide +kernel) hR, S.2.2.2.2 _ ts_X12_isBelow⟩ rfl hsz rfl hcat hdg kk

theorem dX12_wrong_0 : decode cX12_wrong 0 = .ok (.aload_n 0, 1) := by decide +kernel
theorem dX12_wrong_1 : decode cX12_wrong 1 = .ok (.iload_n 1, 1) := by decide +kernel
theorem dX12_wrong_2 : decode cX12_wrong 2 = .ok (.putfield 41, 3) := by decide +kernel
theorem dX12_wrong_5 : decode cX12_wrong 5 = .ok (.iconst 0, 1) := by decide +kernel
theorem dX12_wrong_6 : decode cX12_wrong 6 = .ok (.ireturn, 1) := by decide +kernel
def F_X12_wrong (σ : MS) (a0 : Int32) : Bool × MS := (false, (mu_faultWhat σ a0))
set_option maxHeartbeats 4000000 in
set_option maxRecDepth 100000 in
theorem c_X12_wrong (l : Launch) (z : Cx) (r : Nat → Nat) (σ : MS) (a0 : Int32) (sz : Nat) (res : Bool × MS) (hf : F_X12_wrong σ a0 = res) : Met l yX12_wrong (wsC yX12_wrong cX12_wrong 2 (some .boolean)) { frames := 0, cells := 0, slots := 0, locals := 0 } (mPc z (mW z r σ) sz [.ref (r 0), .int a0]) (gM z (va_A (mW z r σ) sz) (some (.int (zB res.1))) (mW z r res.2)) 0 0 (va_A (mW z r σ) sz) := by
  refine mk_m_z (own := RX12) (wf := mW z r) (by decide) rfl sz _ (Nat.le_of_ble_eq_true rfl) (fun p e s m below meth c A H locs Q ls S hK hA hP hD hS hl hend => ?_)
  have hx := S.1
  have hb := S.2.1
  have hown := S.2.2.2.1
  have hts := S.2.2.2.2
  have hl : lv_has ls 2 [(0, .ref (r 0)), (1, .int a0)] := hl
  unfold F_X12_wrong at hf
  refine lv_aload_n hx hb dX12_wrong_0 rfl (lv_at hl 0 rfl) ?_
  refine lv_iload_n hx hb dX12_wrong_1 rfl (lv_at hl 1 rfl) ?_
  refine fp_X12_faultWhat (v := a0) S hK hP hD hS tf_X12_41 dX12_wrong_2 (fun H locs hP hD hS => ?_)
  refine lv_iconst (v := 0) hx hb dX12_wrong_5 (by decide) ?_
  exact hend false (mu_faultWhat σ a0) H locs 6 ls hf hP hD hS dX12_wrong_6
theorem k_X12_wrong {p : Program} {l : Launch} {e : Env} {R : Room} {s : State} {m : MethodId} {args : Array Value} {below : List Frame} {meth : Method} {c : Code} {H : Heap} {locs : List Loc} {Q : State → Prop} {cc : ByteArray} {pc : Nat} {ls : Array Slot} {rest : List Value} {own : String} {index nL : Nat} {A : Nat → Prop} {z : Cx} {r : Nat → Nat} {σ : MS} {a0 : Int32} (S : CallFix p m c cc nL s args tbG own) (hK : va_K z.1 vwCl (cxT z) s) (hA : ∀ q, s.heap.size ≤ q → A q) (hP : va_P z.1 vwCl (mW z r σ) H) (hD : va_D A (mW z r σ)) (hS : va_S A s.heap H locs) (hl : Cond.methodLink own index yX12_wrong ∈ tbG) (hR : 0 + 1 ≤ R.frames ∧ 8 + (2 + 11) + 0 ≤ R.locals) (hsz : ls.size = nL) (hcat : (rest.map fun v => v.category).sum ≤ 8) (hdg : decode cc pc = .ok (.invokevirtual index, 3)) (kk : ∀ (H : Heap) (locs : List Loc), va_P z.1 vwCl (mW z r (F_X12_wrong σ a0).2) H → va_D A (mW z r (F_X12_wrong σ a0).2) → va_S A s.heap H locs → W p l e R s m args below meth c H locs 0 0 Q (F0 m (pc + 3) ls (.int (zB (F_X12_wrong σ a0).1) :: rest))) : W p l e R s m args below meth c H locs 0 0 Q (F0 m pc ls (.int a0 :: .ref (r 0) :: rest)) :=
  km (As := [.int a0]) (ov := some (.int (zB (F_X12_wrong σ a0).1))) (w' := mW z r (F_X12_wrong σ a0).2) (q0 := 0) (ci := 11) S hK hA hP hD hS (c_X12_wrong l z r σ a0 H.size _ rfl) ⟨tb_cB 1 S.2.2.2.2 tc_X12_wrong ti_X12 hl rfl rfl (by decide +kernel) hR, S.2.2.2.2 _ tm_X12_wrong, S.2.2.2.2 _ te_X12_wrong⟩ rfl rfl rfl rfl hsz rfl hcat hdg kk

theorem dX12_bit_0 : decode cX12_bit 0 = .ok (.lload_n 0, 1) := by decide +kernel
theorem dX12_bit_1 : decode cX12_bit 1 = .ok (.iload_n 2, 1) := by decide +kernel
theorem dX12_bit_2 : decode cX12_bit 2 = .ok (.lshr, 1) := by decide +kernel
theorem dX12_bit_3 : decode cX12_bit 3 = .ok (.lconst 1, 1) := by decide +kernel
theorem dX12_bit_4 : decode cX12_bit 4 = .ok (.land, 1) := by decide +kernel
theorem dX12_bit_5 : decode cX12_bit 5 = .ok (.lconst 1, 1) := by decide +kernel
theorem dX12_bit_6 : decode cX12_bit 6 = .ok (.lcmp, 1) := by decide +kernel
theorem dX12_bit_7 : decode cX12_bit 7 = .ok (.ifCond .ne 7, 3) := by decide +kernel
theorem dX12_bit_10 : decode cX12_bit 10 = .ok (.iconst 1, 1) := by decide +kernel
theorem dX12_bit_11 : decode cX12_bit 11 = .ok (.goto 4, 3) := by decide +kernel
theorem dX12_bit_14 : decode cX12_bit 14 = .ok (.iconst 0, 1) := by decide +kernel
theorem dX12_bit_15 : decode cX12_bit 15 = .ok (.ireturn, 1) := by decide +kernel
def F_X12_bit (a0 : Int64) (a1 : Int32) : Bool := (if ((j_lshr a0 a1) &&& (1 : Int64)) = (1 : Int64) then true else false)
set_option maxHeartbeats 4000000 in
set_option maxRecDepth 100000 in
theorem c_X12_bit (l : Launch) (a0 : Int64) (a1 : Int32) (res : Bool) (hf : F_X12_bit a0 a1 = res) : Met l yX12_bit (wsC yX12_bit cX12_bit 3 (some .boolean)) { frames := 0, cells := 0, slots := 0, locals := 0 } (fun v _ => v = ([.long a0, .int a1] : List Value).toArray) (gS (some (.int (zB res)))) 0 0 (fun _ => False) := by
  refine mk_s_z (own := RX12) (by decide) rfl _ (Nat.le_of_ble_eq_true rfl) (fun p e s m below meth c H locs Q ls S hl hend => ?_)
  have hx := S.1
  have hb := S.2.1
  have hown := S.2.2.2.1
  have hts := S.2.2.2.2
  have hl : lv_has ls 3 [(0, .long a0), (2, .int a1)] := hl
  unfold F_X12_bit at hf
  refine lv_lload_n hx hb dX12_bit_0 rfl (lv_at hl 0 rfl) ?_
  refine lv_iload_n hx hb dX12_bit_1 rfl (lv_at hl 1 rfl) ?_
  refine lv_lshr (v := (j_lshr a0 a1)) hx hb dX12_bit_2 rfl ?_
  refine lv_lconst (v := 1) hx hb dX12_bit_3 (by decide) ?_
  refine lv_land hx hb dX12_bit_4 ?_
  refine lv_lconst (v := 1) hx hb dX12_bit_5 (by decide) ?_
  refine gl_ne (tgt := 14) hx hb dX12_bit_6 dX12_bit_7 (by decide) (fun c_6 => ?_) (fun c_6 => ?_)
  · rw [if_neg c_6] at hf
    refine lv_iconst (v := 0) hx hb dX12_bit_14 (by decide) ?_
    exact hend false 15 ls hf dX12_bit_15
  · rw [if_pos c_6] at hf
    refine lv_iconst (v := 1) hx hb dX12_bit_10 (by decide) ?_
    refine lv_goto (tgt := 15) hx hb dX12_bit_11 (by decide) ?_
    exact hend true 15 ls hf dX12_bit_15
theorem k_X12_bit {p : Program} {l : Launch} {e : Env} {R : Room} {s : State} {m : MethodId} {args : Array Value} {below : List Frame} {meth : Method} {c : Code} {H : Heap} {locs : List Loc} {Q : State → Prop} {cc : ByteArray} {pc : Nat} {ls : Array Slot} {rest : List Value} {own : String} {index nL : Nat} {a0 : Int64} {a1 : Int32} (S : CallFix p m c cc nL s args tbG own) (hl : Cond.methodLink own index yX12_bit ∈ tbG) (hR : 0 + 1 ≤ R.frames ∧ 8 + (3 + 11) + 0 ≤ R.locals) (hsz : ls.size = nL) (hcat : (rest.map fun v => v.category).sum ≤ 8) (hdg : decode cc pc = .ok (.invokestatic index, 3)) (kk : W p l e R s m args below meth c H locs 0 0 Q (F0 m (pc + 3) ls (.int (zB (F_X12_bit a0 a1)) :: rest))) : W p l e R s m args below meth c H locs 0 0 Q (F0 m pc ls (.int a1 :: .long a0 :: rest)) :=
  ks (As := [.long a0, .int a1]) (ov := some (.int (zB (F_X12_bit a0 a1)))) S (c_X12_bit l a0 a1 _ rfl) ⟨tb_cB 2 S.2.2.2.2 tc_X12_bit ti_X12 hl rfl rfl (by decide +kernel) hR, S.2.2.2.2 _ ts_X12_bit⟩ rfl hsz rfl hcat hdg kk

theorem dX12_bits_0 : decode cX12_bits 0 = .ok (.lconst 0, 1) := by decide +kernel
theorem dX12_bits_1 : decode cX12_bits 1 = .ok (.lstore 4, 2) := by decide +kernel
theorem dX12_bits_3 : decode cX12_bits 3 = .ok (.iload_n 2, 1) := by decide +kernel
theorem dX12_bits_4 : decode cX12_bits 4 = .ok (.istore 6, 2) := by decide +kernel
theorem dX12_bits_6 : decode cX12_bits 6 = .ok (.iload 6, 2) := by decide +kernel
theorem dX12_bits_8 : decode cX12_bits 8 = .ok (.iload_n 3, 1) := by decide +kernel
theorem dX12_bits_9 : decode cX12_bits 9 = .ok (.if_icmp .lt 22, 3) := by decide +kernel
theorem dX12_bits_12 : decode cX12_bits 12 = .ok (.lload 4, 2) := by decide +kernel
theorem dX12_bits_14 : decode cX12_bits 14 = .ok (.iconst 1, 1) := by decide +kernel
theorem dX12_bits_15 : decode cX12_bits 15 = .ok (.lshl, 1) := by decide +kernel
theorem dX12_bits_16 : decode cX12_bits 16 = .ok (.lload_n 0, 1) := by decide +kernel
theorem dX12_bits_17 : decode cX12_bits 17 = .ok (.iload 6, 2) := by decide +kernel
theorem dX12_bits_19 : decode cX12_bits 19 = .ok (.lshr, 1) := by decide +kernel
theorem dX12_bits_20 : decode cX12_bits 20 = .ok (.lconst 1, 1) := by decide +kernel
theorem dX12_bits_21 : decode cX12_bits 21 = .ok (.land, 1) := by decide +kernel
theorem dX12_bits_22 : decode cX12_bits 22 = .ok (.lor, 1) := by decide +kernel
theorem dX12_bits_23 : decode cX12_bits 23 = .ok (.lstore 4, 2) := by decide +kernel
theorem dX12_bits_25 : decode cX12_bits 25 = .ok (.iinc 6 (-1), 3) := by decide +kernel
theorem dX12_bits_28 : decode cX12_bits 28 = .ok (.goto (-22), 3) := by decide +kernel
theorem dX12_bits_31 : decode cX12_bits 31 = .ok (.lload 4, 2) := by decide +kernel
theorem dX12_bits_33 : decode cX12_bits 33 = .ok (.lreturn, 1) := by decide +kernel
def F_X12_bits_c6 : Nat → Int64 → Int32 → Int32 → Int64 → Int32 → Option (Int64)
  | 0, _, _, _, _, _ => none
  | n + 1, a0, a1, a2, w4, w6 => (if w6 < a2 then some (w4) else (F_X12_bits_c6 n a0 a1 a2 ((j_lshl w4 (1 : Int32)) ||| ((j_lshr a0 w6) &&& (1 : Int64))) (w6 + (-1))))
def F_X12_bits (a0 : Int64) (a1 : Int32) (a2 : Int32) : Option (Int64) := (F_X12_bits_c6 70 a0 a1 a2 (0 : Int64) a1)
set_option maxHeartbeats 4000000 in
set_option maxRecDepth 100000 in
theorem c_X12_bits (l : Launch) (a0 : Int64) (a1 : Int32) (a2 : Int32) (res : Int64) (hf : F_X12_bits a0 a1 a2 = some res) : Met l yX12_bits (wsC yX12_bits cX12_bits 7 (some .long)) { frames := 0, cells := 0, slots := 0, locals := 0 } (fun v _ => v = ([.long a0, .int a1, .int a2] : List Value).toArray) (gS (some (.long res))) 0 0 (fun _ => False) := by
  refine mk_s_l (own := RX12) (by decide) rfl _ (Nat.le_of_ble_eq_true rfl) (fun p e s m below meth c H locs Q ls S hl hend => ?_)
  have hx := S.1
  have hb := S.2.1
  have hown := S.2.2.2.1
  have hts := S.2.2.2.2
  have hl : lv_has ls 7 [(0, .long a0), (2, .int a1), (3, .int a2)] := hl
  have J_c6 : ∀ (n : Nat) (w4 : Int64) (w6 : Int32) (ls : Array Slot), F_X12_bits_c6 n a0 a1 a2 w4 w6 = some res → lv_has ls 7 [(0, .long a0), (3, .int a2), (4, .long w4), (6, .int w6)] → W p l e { frames := 0, cells := 0, slots := 0, locals := 0 } s m ([.long a0, .int a1, .int a2] : List Value).toArray below meth c H locs 0 0 Q (F0 m 6 ls []) := by
    intro n
    induction n with
    | zero => intro w4 w6 ls hf; rw [F_X12_bits_c6] at hf; cases hf
    | succ n ih =>
      intro w4 w6 ls hf hl
      rw [F_X12_bits_c6] at hf
      refine lv_iload hx hb dX12_bits_6 (lv_at hl 3 rfl) ?_
      refine lv_iload_n hx hb dX12_bits_8 rfl (lv_at hl 1 rfl) ?_
      refine lv_icmp_lt (tgt := 31) hx hb dX12_bits_9 (by decide) (fun c_9 => ?_) (fun c_9 => ?_)
      · rw [if_pos c_9] at hf
        refine lv_lload hx hb dX12_bits_31 (lv_at hl 2 rfl) ?_
        exact hend w4 33 ls (Option.some.inj hf) dX12_bits_33
      · rw [if_neg c_9] at hf
        refine lv_lload hx hb dX12_bits_12 (lv_at hl 2 rfl) ?_
        refine lv_iconst (v := 1) hx hb dX12_bits_14 (by decide) ?_
        refine lv_lshl (v := (j_lshl w4 (1 : Int32))) hx hb dX12_bits_15 rfl ?_
        refine lv_lload_n hx hb dX12_bits_16 rfl (lv_at hl 0 rfl) ?_
        refine lv_iload hx hb dX12_bits_17 (lv_at hl 3 rfl) ?_
        refine lv_lshr (v := (j_lshr a0 w6)) hx hb dX12_bits_19 rfl ?_
        refine lv_lconst (v := 1) hx hb dX12_bits_20 (by decide) ?_
        refine lv_land hx hb dX12_bits_21 ?_
        refine lv_lor hx hb dX12_bits_22 ?_
        refine lv_lstore (lv' := [(4, .long ((j_lshl w4 (1 : Int32)) ||| ((j_lshr a0 w6) &&& (1 : Int64)))), (0, .long a0), (3, .int a2), (6, .int w6)]) hx hb dX12_bits_23 hl (by decide) rfl (fun ls hl => ?_)
        refine lv_iinc (v := w6 + (-1)) (lv' := [(6, .int (w6 + (-1))), (4, .long ((j_lshl w4 (1 : Int32)) ||| ((j_lshr a0 w6) &&& (1 : Int64)))), (0, .long a0), (3, .int a2)]) hx hb dX12_bits_25 hl (k := 3) rfl rfl (by decide) rfl (fun ls hl => ?_)
        refine lv_goto (tgt := 6) hx hb dX12_bits_28 (by decide) ?_
        exact ih ((j_lshl w4 (1 : Int32)) ||| ((j_lshr a0 w6) &&& (1 : Int64))) (w6 + (-1)) ls hf (lv_sub hl [2, 3, 1, 0] rfl)
  unfold F_X12_bits at hf
  refine lv_lconst (v := 0) hx hb dX12_bits_0 (by decide) ?_
  refine lv_lstore (lv' := [(4, .long (0 : Int64)), (0, .long a0), (2, .int a1), (3, .int a2)]) hx hb dX12_bits_1 hl (by decide) rfl (fun ls hl => ?_)
  refine lv_iload_n hx hb dX12_bits_3 rfl (lv_at hl 2 rfl) ?_
  refine lv_istore (lv' := [(6, .int a1), (4, .long (0 : Int64)), (0, .long a0), (2, .int a1), (3, .int a2)]) hx hb dX12_bits_4 hl (by decide) rfl (fun ls hl => ?_)
  exact J_c6 70 (0 : Int64) a1 ls hf (lv_sub hl [2, 4, 1, 0] rfl)
theorem k_X12_bits {p : Program} {l : Launch} {e : Env} {R : Room} {s : State} {m : MethodId} {args : Array Value} {below : List Frame} {meth : Method} {c : Code} {H : Heap} {locs : List Loc} {Q : State → Prop} {cc : ByteArray} {pc : Nat} {ls : Array Slot} {rest : List Value} {own : String} {index nL : Nat} {a0 : Int64} {a1 : Int32} {a2 : Int32} {res : Int64} (hres : F_X12_bits a0 a1 a2 = some res) (S : CallFix p m c cc nL s args tbG own) (hl : Cond.methodLink own index yX12_bits ∈ tbG) (hR : 0 + 1 ≤ R.frames ∧ 8 + (7 + 11) + 0 ≤ R.locals) (hsz : ls.size = nL) (hcat : (rest.map fun v => v.category).sum ≤ 8) (hdg : decode cc pc = .ok (.invokestatic index, 3)) (kk : W p l e R s m args below meth c H locs 0 0 Q (F0 m (pc + 3) ls (.long res :: rest))) : W p l e R s m args below meth c H locs 0 0 Q (F0 m pc ls (.int a2 :: .int a1 :: .long a0 :: rest)) :=
  ks (As := [.long a0, .int a1, .int a2]) (ov := some (.long res)) S (c_X12_bits l a0 a1 a2 _ hres) ⟨tb_cB 3 S.2.2.2.2 tc_X12_bits ti_X12 hl rfl rfl (by decide +kernel) hR, S.2.2.2.2 _ ts_X12_bits⟩ rfl hsz rfl hcat hdg kk

