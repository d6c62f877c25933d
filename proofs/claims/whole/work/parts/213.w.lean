theorem dX12_placeOf_0 : decode cX12_placeOf 0 = .ok (.aload_n 0, 1) := by decide +kernel
theorem dX12_placeOf_1 : decode cX12_placeOf 1 = .ok (.bipush 23, 2) := by decide +kernel
theorem dX12_placeOf_3 : decode cX12_placeOf 3 = .ok (.iconst 5, 1) := by decide +kernel
theorem dX12_placeOf_4 : decode cX12_placeOf 4 = .ok (.invokevirtual 121, 3) := by decide +kernel
theorem dX12_placeOf_7 : decode cX12_placeOf 7 = .ok (.i2l, 1) := by decide +kernel
theorem dX12_placeOf_8 : decode cX12_placeOf 8 = .ok (.iconst 2, 1) := by decide +kernel
theorem dX12_placeOf_9 : decode cX12_placeOf 9 = .ok (.lshl, 1) := by decide +kernel
theorem dX12_placeOf_10 : decode cX12_placeOf 10 = .ok (.aload_n 0, 1) := by decide +kernel
theorem dX12_placeOf_11 : decode cX12_placeOf 11 = .ok (.bipush 30, 2) := by decide +kernel
theorem dX12_placeOf_13 : decode cX12_placeOf 13 = .ok (.bipush 29, 2) := by decide +kernel
theorem dX12_placeOf_15 : decode cX12_placeOf 15 = .ok (.invokevirtual 121, 3) := by decide +kernel
theorem dX12_placeOf_18 : decode cX12_placeOf 18 = .ok (.i2l, 1) := by decide +kernel
theorem dX12_placeOf_19 : decode cX12_placeOf 19 = .ok (.lor, 1) := by decide +kernel
theorem dX12_placeOf_20 : decode cX12_placeOf 20 = .ok (.bipush 21, 2) := by decide +kernel
theorem dX12_placeOf_22 : decode cX12_placeOf 22 = .ok (.invokestatic 125, 3) := by decide +kernel
theorem dX12_placeOf_25 : decode cX12_placeOf 25 = .ok (.lstore_n 1, 1) := by decide +kernel
theorem dX12_placeOf_26 : decode cX12_placeOf 26 = .ok (.aload_n 0, 1) := by decide +kernel
theorem dX12_placeOf_27 : decode cX12_placeOf 27 = .ok (.bipush 31, 2) := by decide +kernel
theorem dX12_placeOf_29 : decode cX12_placeOf 29 = .ok (.invokevirtual 118, 3) := by decide +kernel
theorem dX12_placeOf_32 : decode cX12_placeOf 32 = .ok (.ifCond .eq 32, 3) := by decide +kernel
theorem dX12_placeOf_35 : decode cX12_placeOf 35 = .ok (.aload_n 0, 1) := by decide +kernel
theorem dX12_placeOf_36 : decode cX12_placeOf 36 = .ok (.aload_n 0, 1) := by decide +kernel
theorem dX12_placeOf_37 : decode cX12_placeOf 37 = .ok (.iconst 4, 1) := by decide +kernel
theorem dX12_placeOf_38 : decode cX12_placeOf 38 = .ok (.iconst 0, 1) := by decide +kernel
theorem dX12_placeOf_39 : decode cX12_placeOf 39 = .ok (.invokevirtual 121, 3) := by decide +kernel
theorem dX12_placeOf_42 : decode cX12_placeOf 42 = .ok (.aload_n 0, 1) := by decide +kernel
theorem dX12_placeOf_43 : decode cX12_placeOf 43 = .ok (.getfield 22, 3) := by decide +kernel
theorem dX12_placeOf_46 : decode cX12_placeOf 46 = .ok (.iconst 2, 1) := by decide +kernel
theorem dX12_placeOf_47 : decode cX12_placeOf 47 = .ok (.laload, 1) := by decide +kernel
theorem dX12_placeOf_48 : decode cX12_placeOf 48 = .ok (.ldc2_w 174, 3) := by decide +kernel
theorem dX12_placeOf_51 : decode cX12_placeOf 51 = .ok (.land, 1) := by decide +kernel
theorem dX12_placeOf_52 : decode cX12_placeOf 52 = .ok (.ldc2_w 132, 3) := by decide +kernel
theorem dX12_placeOf_55 : decode cX12_placeOf 55 = .ok (.lload_n 1, 1) := by decide +kernel
theorem dX12_placeOf_56 : decode cX12_placeOf 56 = .ok (.lmul, 1) := by decide +kernel
theorem dX12_placeOf_57 : decode cX12_placeOf 57 = .ok (.ladd, 1) := by decide +kernel
theorem dX12_placeOf_58 : decode cX12_placeOf 58 = .ok (.invokevirtual 151, 3) := by decide +kernel
theorem dX12_placeOf_61 : decode cX12_placeOf 61 = .ok (.goto 21, 3) := by decide +kernel
theorem dX12_placeOf_64 : decode cX12_placeOf 64 = .ok (.aload_n 0, 1) := by decide +kernel
theorem dX12_placeOf_65 : decode cX12_placeOf 65 = .ok (.aload_n 0, 1) := by decide +kernel
theorem dX12_placeOf_66 : decode cX12_placeOf 66 = .ok (.iconst 4, 1) := by decide +kernel
theorem dX12_placeOf_67 : decode cX12_placeOf 67 = .ok (.iconst 0, 1) := by decide +kernel
theorem dX12_placeOf_68 : decode cX12_placeOf 68 = .ok (.invokevirtual 121, 3) := by decide +kernel
theorem dX12_placeOf_71 : decode cX12_placeOf 71 = .ok (.aload_n 0, 1) := by decide +kernel
theorem dX12_placeOf_72 : decode cX12_placeOf 72 = .ok (.getfield 22, 3) := by decide +kernel
theorem dX12_placeOf_75 : decode cX12_placeOf 75 = .ok (.iconst 2, 1) := by decide +kernel
theorem dX12_placeOf_76 : decode cX12_placeOf 76 = .ok (.laload, 1) := by decide +kernel
theorem dX12_placeOf_77 : decode cX12_placeOf 77 = .ok (.lload_n 1, 1) := by decide +kernel
theorem dX12_placeOf_78 : decode cX12_placeOf 78 = .ok (.ladd, 1) := by decide +kernel
theorem dX12_placeOf_79 : decode cX12_placeOf 79 = .ok (.invokevirtual 151, 3) := by decide +kernel
theorem dX12_placeOf_82 : decode cX12_placeOf 82 = .ok (.return_, 1) := by decide +kernel
def F_X12_placeOf (σ : MS)  : Option (MS) := ((F_X12_f σ (23 : Int32) (5 : Int32)).bind fun v1 => ((F_X12_f σ (30 : Int32) (29 : Int32)).bind fun v2 => ((F_X12_extend ((j_lshl v1.toInt64 (2 : Int32)) ||| v2.toInt64) (21 : Int32)).bind fun v3 => (if (F_X12_on σ (31 : Int32)) = true then ((F_X12_f σ (4 : Int32) (0 : Int32)).bind fun v6 => ((F_X12_put σ v6 (((m_state σ (2 : Int32).toNatClampNeg) &&& (-4096 : Int64)) + ((4096 : Int64) * v3))).bind fun v7 => some (v7))) else ((F_X12_f σ (4 : Int32) (0 : Int32)).bind fun v4 => ((F_X12_put σ v4 ((m_state σ (2 : Int32).toNatClampNeg) + v3)).bind fun v5 => some (v5)))))))
set_option maxHeartbeats 4000000 in
set_option maxRecDepth 100000 in
theorem c_X12_placeOf (l : Launch) (z : Cx) (r : Nat → Nat) (σ : MS) (sz : Nat) (res : MS) (hf : F_X12_placeOf σ = some res) : Met l yX12_placeOf (wsC yX12_placeOf cX12_placeOf 3 none) { frames := 2, cells := 0, slots := 0, locals := 47 } (mPc z (mW z r σ) sz [.ref (r 0)]) (gM z (va_A (mW z r σ) sz) none (mW z r res)) 0 0 (va_A (mW z r σ) sz) := by
  refine mk_m_v (own := RX12) (wf := mW z r) (by decide) rfl sz _ (Nat.le_of_ble_eq_true rfl) (fun p e s m below meth c A H locs Q ls S hK hA hP hD hS hl hend => ?_)
  have hx := S.1
  have hb := S.2.1
  have hown := S.2.2.2.1
  have hts := S.2.2.2.2
  have hl : lv_has ls 3 [(0, .ref (r 0))] := hl
  unfold F_X12_placeOf at hf
  refine lv_aload_n hx hb dX12_placeOf_0 rfl (lv_at hl 0 rfl) ?_
  refine lv_bipush (v := 23) hx hb dX12_placeOf_1 (by decide) ?_
  refine lv_iconst (v := 5) hx hb dX12_placeOf_3 (by decide) ?_
  obtain ⟨v1, e_v1, hf⟩ := Option.bind_eq_some_iff.mp hf
  refine k_X12_f (a0 := (23 : Int32)) (a1 := (5 : Int32)) (res := v1) (hres := e_v1) S hK hP tl_X12_121 ⟨Nat.le_of_ble_eq_true rfl, Nat.le_of_ble_eq_true rfl⟩ hl.1 (Nat.le_of_ble_eq_true rfl) dX12_placeOf_4 ?_
  refine lv_i2l hx hb dX12_placeOf_7 rfl ?_
  refine lv_iconst (v := 2) hx hb dX12_placeOf_8 (by decide) ?_
  refine lv_lshl (v := (j_lshl v1.toInt64 (2 : Int32))) hx hb dX12_placeOf_9 rfl ?_
  refine lv_aload_n hx hb dX12_placeOf_10 rfl (lv_at hl 0 rfl) ?_
  refine lv_bipush (v := 30) hx hb dX12_placeOf_11 (by decide) ?_
  refine lv_bipush (v := 29) hx hb dX12_placeOf_13 (by decide) ?_
  obtain ⟨v2, e_v2, hf⟩ := Option.bind_eq_some_iff.mp hf
  refine k_X12_f (a0 := (30 : Int32)) (a1 := (29 : Int32)) (res := v2) (hres := e_v2) S hK hP tl_X12_121 ⟨Nat.le_of_ble_eq_true rfl, Nat.le_of_ble_eq_true rfl⟩ hl.1 (Nat.le_of_ble_eq_true rfl) dX12_placeOf_15 ?_
  refine lv_i2l hx hb dX12_placeOf_18 rfl ?_
  refine lv_lor hx hb dX12_placeOf_19 ?_
  refine lv_bipush (v := 21) hx hb dX12_placeOf_20 (by decide) ?_
  obtain ⟨v3, e_v3, hf⟩ := Option.bind_eq_some_iff.mp hf
  refine k_X12_extend (a0 := ((j_lshl v1.toInt64 (2 : Int32)) ||| v2.toInt64)) (a1 := (21 : Int32)) (res := v3) (hres := e_v3) S tl_X12_125 ⟨Nat.le_of_ble_eq_true rfl, Nat.le_of_ble_eq_true rfl⟩ hl.1 (Nat.le_of_ble_eq_true rfl) dX12_placeOf_22 ?_
  refine lv_lstore_n (lv' := [(1, .long v3), (0, .ref (r 0))]) hx hb dX12_placeOf_25 rfl hl (by decide) rfl (fun ls hl => ?_)
  refine lv_aload_n hx hb dX12_placeOf_26 rfl (lv_at hl 1 rfl) ?_
  refine lv_bipush (v := 31) hx hb dX12_placeOf_27 (by decide) ?_
  refine k_X12_on (a0 := (31 : Int32)) S hK hP tl_X12_118 ⟨Nat.le_of_ble_eq_true rfl, Nat.le_of_ble_eq_true rfl⟩ hl.1 (Nat.le_of_ble_eq_true rfl) dX12_placeOf_29 ?_
  refine gz_eq (tgt := 64) hx hb dX12_placeOf_32 (by decide) (fun c_32 => ?_) (fun c_32 => ?_)
  · rw [if_neg c_32] at hf
    refine lv_aload_n hx hb dX12_placeOf_64 rfl (lv_at hl 1 rfl) ?_
    refine lv_aload_n hx hb dX12_placeOf_65 rfl (lv_at hl 1 rfl) ?_
    refine lv_iconst (v := 4) hx hb dX12_placeOf_66 (by decide) ?_
    refine lv_iconst (v := 0) hx hb dX12_placeOf_67 (by decide) ?_
    obtain ⟨v4, e_v4, hf⟩ := Option.bind_eq_some_iff.mp hf
    refine k_X12_f (a0 := (4 : Int32)) (a1 := (0 : Int32)) (res := v4) (hres := e_v4) S hK hP tl_X12_121 ⟨Nat.le_of_ble_eq_true rfl, Nat.le_of_ble_eq_true rfl⟩ hl.1 (Nat.le_of_ble_eq_true rfl) dX12_placeOf_68 ?_
    refine lv_aload_n hx hb dX12_placeOf_71 rfl (lv_at hl 1 rfl) ?_
    refine fg_X12_state S hK hP tf_X12_22 dX12_placeOf_72 ?_
    refine lv_iconst (v := 2) hx hb dX12_placeOf_75 (by decide) ?_
    refine al_m_state S hK hP (show vp_in (2 : Int32) 11 by unfold vp_in; decide) dX12_placeOf_76 ?_
    refine lv_lload_n hx hb dX12_placeOf_77 rfl (lv_at hl 0 rfl) ?_
    refine lv_ladd hx hb dX12_placeOf_78 ?_
    obtain ⟨v5, e_v5, hf⟩ := Option.bind_eq_some_iff.mp hf
    refine k_X12_put (a0 := v4) (a1 := ((m_state σ (2 : Int32).toNatClampNeg) + v3)) (res := v5) (hres := e_v5) S hK hA hP hD hS tl_X12_151 ⟨Nat.le_of_ble_eq_true rfl, Nat.le_of_ble_eq_true rfl⟩ hl.1 (Nat.le_of_ble_eq_true rfl) dX12_placeOf_79 (fun H locs hP hD hS => ?_)
    exact hend v5 H locs 82 ls (Option.some.inj hf) hP hD hS dX12_placeOf_82
  · rw [if_pos c_32] at hf
    refine lv_aload_n hx hb dX12_placeOf_35 rfl (lv_at hl 1 rfl) ?_
    refine lv_aload_n hx hb dX12_placeOf_36 rfl (lv_at hl 1 rfl) ?_
    refine lv_iconst (v := 4) hx hb dX12_placeOf_37 (by decide) ?_
    refine lv_iconst (v := 0) hx hb dX12_placeOf_38 (by decide) ?_
    obtain ⟨v6, e_v6, hf⟩ := Option.bind_eq_some_iff.mp hf
    refine k_X12_f (a0 := (4 : Int32)) (a1 := (0 : Int32)) (res := v6) (hres := e_v6) S hK hP tl_X12_121 ⟨Nat.le_of_ble_eq_true rfl, Nat.le_of_ble_eq_true rfl⟩ hl.1 (Nat.le_of_ble_eq_true rfl) dX12_placeOf_39 ?_
    refine lv_aload_n hx hb dX12_placeOf_42 rfl (lv_at hl 1 rfl) ?_
    refine fg_X12_state S hK hP tf_X12_22 dX12_placeOf_43 ?_
    refine lv_iconst (v := 2) hx hb dX12_placeOf_46 (by decide) ?_
    refine al_m_state S hK hP (show vp_in (2 : Int32) 11 by unfold vp_in; decide) dX12_placeOf_47 ?_
    refine lv_ldc2 (v := -4096) hx hb hown (hts _ tk_X12_174) dX12_placeOf_48 ?_
    refine lv_land hx hb dX12_placeOf_51 ?_
    refine lv_ldc2 (v := 4096) hx hb hown (hts _ tk_X12_132) dX12_placeOf_52 ?_
    refine lv_lload_n hx hb dX12_placeOf_55 rfl (lv_at hl 0 rfl) ?_
    refine lv_lmul hx hb dX12_placeOf_56 ?_
    refine lv_ladd hx hb dX12_placeOf_57 ?_
    obtain ⟨v7, e_v7, hf⟩ := Option.bind_eq_some_iff.mp hf
    refine k_X12_put (a0 := v6) (a1 := (((m_state σ (2 : Int32).toNatClampNeg) &&& (-4096 : Int64)) + ((4096 : Int64) * v3))) (res := v7) (hres := e_v7) S hK hA hP hD hS tl_X12_151 ⟨Nat.le_of_ble_eq_true rfl, Nat.le_of_ble_eq_true rfl⟩ hl.1 (Nat.le_of_ble_eq_true rfl) dX12_placeOf_58 (fun H locs hP hD hS => ?_)
    refine lv_goto (tgt := 82) hx hb dX12_placeOf_61 (by decide) ?_
    exact hend v7 H locs 82 ls (Option.some.inj hf) hP hD hS dX12_placeOf_82
theorem k_X12_placeOf {p : Program} {l : Launch} {e : Env} {R : Room} {s : State} {m : MethodId} {args : Array Value} {below : List Frame} {meth : Method} {c : Code} {H : Heap} {locs : List Loc} {Q : State → Prop} {cc : ByteArray} {pc : Nat} {ls : Array Slot} {rest : List Value} {own : String} {index nL : Nat} {A : Nat → Prop} {z : Cx} {r : Nat → Nat} {σ : MS} {res : MS} (hres : F_X12_placeOf σ = some res) (S : CallFix p m c cc nL s args tbG own) (hK : va_K z.1 vwCl (cxT z) s) (hA : ∀ q, s.heap.size ≤ q → A q) (hP : va_P z.1 vwCl (mW z r σ) H) (hD : va_D A (mW z r σ)) (hS : va_S A s.heap H locs) (hl : Cond.methodLink own index yX12_placeOf ∈ tbG) (hR : 2 + 1 ≤ R.frames ∧ 8 + (3 + 11) + 47 ≤ R.locals) (hsz : ls.size = nL) (hcat : (rest.map fun v => v.category).sum ≤ 8) (hdg : decode cc pc = .ok (.invokevirtual index, 3)) (kk : ∀ (H : Heap) (locs : List Loc), va_P z.1 vwCl (mW z r res) H → va_D A (mW z r res) → va_S A s.heap H locs → W p l e R s m args below meth c H locs 0 0 Q (F0 m (pc + 3) ls (rest))) : W p l e R s m args below meth c H locs 0 0 Q (F0 m pc ls (.ref (r 0) :: rest)) :=
  km (As := []) (ov := none) (w' := mW z r res) (q0 := 0) (ci := 11) S hK hA hP hD hS (c_X12_placeOf l z r σ H.size _ hres) ⟨tb_cB 0 S.2.2.2.2 tc_X12_placeOf ti_X12 hl rfl rfl (by decide +kernel) hR, S.2.2.2.2 _ tm_X12_placeOf, S.2.2.2.2 _ te_X12_placeOf⟩ rfl rfl rfl rfl hsz rfl hcat hdg kk

theorem dX12_bitsOf_0 : decode cX12_bitsOf 0 = .ok (.aload_n 0, 1) := by decide +kernel
theorem dX12_bitsOf_1 : decode cX12_bitsOf 1 = .ok (.invokevirtual 129, 3) := by decide +kernel
theorem dX12_bitsOf_4 : decode cX12_bitsOf 4 = .ok (.istore_n 1, 1) := by decide +kernel
theorem dX12_bitsOf_5 : decode cX12_bitsOf 5 = .ok (.aload_n 0, 1) := by decide +kernel
theorem dX12_bitsOf_6 : decode cX12_bitsOf 6 = .ok (.bipush 30, 2) := by decide +kernel
theorem dX12_bitsOf_8 : decode cX12_bitsOf 8 = .ok (.bipush 29, 2) := by decide +kernel
theorem dX12_bitsOf_10 : decode cX12_bitsOf 10 = .ok (.invokevirtual 121, 3) := by decide +kernel
theorem dX12_bitsOf_13 : decode cX12_bitsOf 13 = .ok (.istore_n 2, 1) := by decide +kernel
theorem dX12_bitsOf_14 : decode cX12_bitsOf 14 = .ok (.aload_n 0, 1) := by decide +kernel
theorem dX12_bitsOf_15 : decode cX12_bitsOf 15 = .ok (.bipush 21, 2) := by decide +kernel
theorem dX12_bitsOf_17 : decode cX12_bitsOf 17 = .ok (.bipush 16, 2) := by decide +kernel
theorem dX12_bitsOf_19 : decode cX12_bitsOf 19 = .ok (.invokevirtual 121, 3) := by decide +kernel
theorem dX12_bitsOf_22 : decode cX12_bitsOf 22 = .ok (.istore_n 3, 1) := by decide +kernel
theorem dX12_bitsOf_23 : decode cX12_bitsOf 23 = .ok (.aload_n 0, 1) := by decide +kernel
theorem dX12_bitsOf_24 : decode cX12_bitsOf 24 = .ok (.bipush 15, 2) := by decide +kernel
theorem dX12_bitsOf_26 : decode cX12_bitsOf 26 = .ok (.bipush 10, 2) := by decide +kernel
theorem dX12_bitsOf_28 : decode cX12_bitsOf 28 = .ok (.invokevirtual 121, 3) := by decide +kernel
theorem dX12_bitsOf_31 : decode cX12_bitsOf 31 = .ok (.istore 4, 2) := by decide +kernel
theorem dX12_bitsOf_33 : decode cX12_bitsOf 33 = .ok (.iload_n 2, 1) := by decide +kernel
theorem dX12_bitsOf_34 : decode cX12_bitsOf 34 = .ok (.iconst 3, 1) := by decide +kernel
theorem dX12_bitsOf_35 : decode cX12_bitsOf 35 = .ok (.if_icmp .eq 29, 3) := by decide +kernel
theorem dX12_bitsOf_38 : decode cX12_bitsOf 38 = .ok (.aload_n 0, 1) := by decide +kernel
theorem dX12_bitsOf_39 : decode cX12_bitsOf 39 = .ok (.bipush 22, 2) := by decide +kernel
theorem dX12_bitsOf_41 : decode cX12_bitsOf 41 = .ok (.invokevirtual 118, 3) := by decide +kernel
theorem dX12_bitsOf_44 : decode cX12_bitsOf 44 = .ok (.aload_n 0, 1) := by decide +kernel
theorem dX12_bitsOf_45 : decode cX12_bitsOf 45 = .ok (.bipush 31, 2) := by decide +kernel
theorem dX12_bitsOf_47 : decode cX12_bitsOf 47 = .ok (.invokevirtual 118, 3) := by decide +kernel
theorem dX12_bitsOf_50 : decode cX12_bitsOf 50 = .ok (.if_icmp .ne 14, 3) := by decide +kernel
theorem dX12_bitsOf_53 : decode cX12_bitsOf 53 = .ok (.iload_n 3, 1) := by decide +kernel
theorem dX12_bitsOf_54 : decode cX12_bitsOf 54 = .ok (.iload_n 1, 1) := by decide +kernel
theorem dX12_bitsOf_55 : decode cX12_bitsOf 55 = .ok (.if_icmp .ge 9, 3) := by decide +kernel
theorem dX12_bitsOf_58 : decode cX12_bitsOf 58 = .ok (.iload 4, 2) := by decide +kernel
theorem dX12_bitsOf_60 : decode cX12_bitsOf 60 = .ok (.iload_n 1, 1) := by decide +kernel
theorem dX12_bitsOf_61 : decode cX12_bitsOf 61 = .ok (.if_icmp .lt 8, 3) := by decide +kernel
theorem dX12_bitsOf_64 : decode cX12_bitsOf 64 = .ok (.aload_n 0, 1) := by decide +kernel
theorem dX12_bitsOf_65 : decode cX12_bitsOf 65 = .ok (.invokevirtual 158, 3) := by decide +kernel
theorem dX12_bitsOf_68 : decode cX12_bitsOf 68 = .ok (.return_, 1) := by decide +kernel
theorem dX12_bitsOf_69 : decode cX12_bitsOf 69 = .ok (.aload_n 0, 1) := by decide +kernel
theorem dX12_bitsOf_70 : decode cX12_bitsOf 70 = .ok (.aload_n 0, 1) := by decide +kernel
theorem dX12_bitsOf_71 : decode cX12_bitsOf 71 = .ok (.bipush 9, 2) := by decide +kernel
theorem dX12_bitsOf_73 : decode cX12_bitsOf 73 = .ok (.iconst 5, 1) := by decide +kernel
theorem dX12_bitsOf_74 : decode cX12_bitsOf 74 = .ok (.invokevirtual 121, 3) := by decide +kernel
theorem dX12_bitsOf_77 : decode cX12_bitsOf 77 = .ok (.invokevirtual 161, 3) := by decide +kernel
theorem dX12_bitsOf_80 : decode cX12_bitsOf 80 = .ok (.iload_n 1, 1) := by decide +kernel
theorem dX12_bitsOf_81 : decode cX12_bitsOf 81 = .ok (.invokestatic 138, 3) := by decide +kernel
theorem dX12_bitsOf_84 : decode cX12_bitsOf 84 = .ok (.lstore 5, 2) := by decide +kernel
theorem dX12_bitsOf_86 : decode cX12_bitsOf 86 = .ok (.aload_n 0, 1) := by decide +kernel
theorem dX12_bitsOf_87 : decode cX12_bitsOf 87 = .ok (.aload_n 0, 1) := by decide +kernel
theorem dX12_bitsOf_88 : decode cX12_bitsOf 88 = .ok (.iconst 4, 1) := by decide +kernel
theorem dX12_bitsOf_89 : decode cX12_bitsOf 89 = .ok (.iconst 0, 1) := by decide +kernel
theorem dX12_bitsOf_90 : decode cX12_bitsOf 90 = .ok (.invokevirtual 121, 3) := by decide +kernel
theorem dX12_bitsOf_93 : decode cX12_bitsOf 93 = .ok (.invokevirtual 161, 3) := by decide +kernel
theorem dX12_bitsOf_96 : decode cX12_bitsOf 96 = .ok (.iload_n 1, 1) := by decide +kernel
theorem dX12_bitsOf_97 : decode cX12_bitsOf 97 = .ok (.invokestatic 138, 3) := by decide +kernel
theorem dX12_bitsOf_100 : decode cX12_bitsOf 100 = .ok (.lstore 7, 2) := by decide +kernel
theorem dX12_bitsOf_102 : decode cX12_bitsOf 102 = .ok (.iconst 0, 1) := by decide +kernel
theorem dX12_bitsOf_103 : decode cX12_bitsOf 103 = .ok (.istore 9, 2) := by decide +kernel
theorem dX12_bitsOf_105 : decode cX12_bitsOf 105 = .ok (.iload_n 1, 1) := by decide +kernel
theorem dX12_bitsOf_106 : decode cX12_bitsOf 106 = .ok (.iload_n 3, 1) := by decide +kernel
theorem dX12_bitsOf_107 : decode cX12_bitsOf 107 = .ok (.isub, 1) := by decide +kernel
theorem dX12_bitsOf_108 : decode cX12_bitsOf 108 = .ok (.istore 10, 2) := by decide +kernel
theorem dX12_bitsOf_110 : decode cX12_bitsOf 110 = .ok (.iload 4, 2) := by decide +kernel
theorem dX12_bitsOf_112 : decode cX12_bitsOf 112 = .ok (.iload_n 3, 1) := by decide +kernel
theorem dX12_bitsOf_113 : decode cX12_bitsOf 113 = .ok (.if_icmp .lt 9, 3) := by decide +kernel
theorem dX12_bitsOf_116 : decode cX12_bitsOf 116 = .ok (.iload_n 3, 1) := by decide +kernel
theorem dX12_bitsOf_117 : decode cX12_bitsOf 117 = .ok (.istore 9, 2) := by decide +kernel
theorem dX12_bitsOf_119 : decode cX12_bitsOf 119 = .ok (.iconst 0, 1) := by decide +kernel
theorem dX12_bitsOf_120 : decode cX12_bitsOf 120 = .ok (.istore 10, 2) := by decide +kernel
theorem dX12_bitsOf_122 : decode cX12_bitsOf 122 = .ok (.iload 4, 2) := by decide +kernel
theorem dX12_bitsOf_124 : decode cX12_bitsOf 124 = .ok (.iload 9, 2) := by decide +kernel
theorem dX12_bitsOf_126 : decode cX12_bitsOf 126 = .ok (.isub, 1) := by decide +kernel
theorem dX12_bitsOf_127 : decode cX12_bitsOf 127 = .ok (.iconst 1, 1) := by decide +kernel
theorem dX12_bitsOf_128 : decode cX12_bitsOf 128 = .ok (.iadd, 1) := by decide +kernel
theorem dX12_bitsOf_129 : decode cX12_bitsOf 129 = .ok (.istore 11, 2) := by decide +kernel
theorem dX12_bitsOf_131 : decode cX12_bitsOf 131 = .ok (.lconst 0, 1) := by decide +kernel
theorem dX12_bitsOf_132 : decode cX12_bitsOf 132 = .ok (.lstore 12, 2) := by decide +kernel
theorem dX12_bitsOf_134 : decode cX12_bitsOf 134 = .ok (.iconst 0, 1) := by decide +kernel
theorem dX12_bitsOf_135 : decode cX12_bitsOf 135 = .ok (.istore 14, 2) := by decide +kernel
theorem dX12_bitsOf_137 : decode cX12_bitsOf 137 = .ok (.iload 14, 2) := by decide +kernel
theorem dX12_bitsOf_139 : decode cX12_bitsOf 139 = .ok (.iload_n 1, 1) := by decide +kernel
theorem dX12_bitsOf_140 : decode cX12_bitsOf 140 = .ok (.if_icmp .ge 91, 3) := by decide +kernel
theorem dX12_bitsOf_143 : decode cX12_bitsOf 143 = .ok (.lconst 0, 1) := by decide +kernel
theorem dX12_bitsOf_144 : decode cX12_bitsOf 144 = .ok (.lstore 15, 2) := by decide +kernel
theorem dX12_bitsOf_146 : decode cX12_bitsOf 146 = .ok (.iload_n 2, 1) := by decide +kernel
theorem dX12_bitsOf_147 : decode cX12_bitsOf 147 = .ok (.iconst 1, 1) := by decide +kernel
theorem dX12_bitsOf_148 : decode cX12_bitsOf 148 = .ok (.if_icmp .ne 12, 3) := by decide +kernel
theorem dX12_bitsOf_151 : decode cX12_bitsOf 151 = .ok (.lload 7, 2) := by decide +kernel
theorem dX12_bitsOf_153 : decode cX12_bitsOf 153 = .ok (.iload 14, 2) := by decide +kernel
theorem dX12_bitsOf_155 : decode cX12_bitsOf 155 = .ok (.lshr, 1) := by decide +kernel
theorem dX12_bitsOf_156 : decode cX12_bitsOf 156 = .ok (.lconst 1, 1) := by decide +kernel
theorem dX12_bitsOf_157 : decode cX12_bitsOf 157 = .ok (.land, 1) := by decide +kernel
theorem dX12_bitsOf_158 : decode cX12_bitsOf 158 = .ok (.lstore 15, 2) := by decide +kernel
theorem dX12_bitsOf_160 : decode cX12_bitsOf 160 = .ok (.iload_n 2, 1) := by decide +kernel
theorem dX12_bitsOf_161 : decode cX12_bitsOf 161 = .ok (.ifCond .ne 22, 3) := by decide +kernel
theorem dX12_bitsOf_164 : decode cX12_bitsOf 164 = .ok (.iload 14, 2) := by decide +kernel
theorem dX12_bitsOf_166 : decode cX12_bitsOf 166 = .ok (.iload 10, 2) := by decide +kernel
theorem dX12_bitsOf_168 : decode cX12_bitsOf 168 = .ok (.iload 11, 2) := by decide +kernel
theorem dX12_bitsOf_170 : decode cX12_bitsOf 170 = .ok (.iadd, 1) := by decide +kernel
theorem dX12_bitsOf_171 : decode cX12_bitsOf 171 = .ok (.if_icmp .lt 12, 3) := by decide +kernel
theorem dX12_bitsOf_174 : decode cX12_bitsOf 174 = .ok (.lload 5, 2) := by decide +kernel
theorem dX12_bitsOf_176 : decode cX12_bitsOf 176 = .ok (.iload 4, 2) := by decide +kernel
theorem dX12_bitsOf_178 : decode cX12_bitsOf 178 = .ok (.lshr, 1) := by decide +kernel
theorem dX12_bitsOf_179 : decode cX12_bitsOf 179 = .ok (.lconst 1, 1) := by decide +kernel
theorem dX12_bitsOf_180 : decode cX12_bitsOf 180 = .ok (.land, 1) := by decide +kernel
theorem dX12_bitsOf_181 : decode cX12_bitsOf 181 = .ok (.lstore 15, 2) := by decide +kernel
theorem dX12_bitsOf_183 : decode cX12_bitsOf 183 = .ok (.iload 14, 2) := by decide +kernel
theorem dX12_bitsOf_185 : decode cX12_bitsOf 185 = .ok (.iload 10, 2) := by decide +kernel
theorem dX12_bitsOf_187 : decode cX12_bitsOf 187 = .ok (.if_icmp .lt 28, 3) := by decide +kernel
theorem dX12_bitsOf_190 : decode cX12_bitsOf 190 = .ok (.iload 14, 2) := by decide +kernel
theorem dX12_bitsOf_192 : decode cX12_bitsOf 192 = .ok (.iload 10, 2) := by decide +kernel
theorem dX12_bitsOf_194 : decode cX12_bitsOf 194 = .ok (.iload 11, 2) := by decide +kernel
theorem dX12_bitsOf_196 : decode cX12_bitsOf 196 = .ok (.iadd, 1) := by decide +kernel
theorem dX12_bitsOf_197 : decode cX12_bitsOf 197 = .ok (.if_icmp .ge 18, 3) := by decide +kernel
theorem dX12_bitsOf_200 : decode cX12_bitsOf 200 = .ok (.lload 5, 2) := by decide +kernel
theorem dX12_bitsOf_202 : decode cX12_bitsOf 202 = .ok (.iload 9, 2) := by decide +kernel
theorem dX12_bitsOf_204 : decode cX12_bitsOf 204 = .ok (.iload 14, 2) := by decide +kernel
theorem dX12_bitsOf_206 : decode cX12_bitsOf 206 = .ok (.iadd, 1) := by decide +kernel
theorem dX12_bitsOf_207 : decode cX12_bitsOf 207 = .ok (.iload 10, 2) := by decide +kernel
theorem dX12_bitsOf_209 : decode cX12_bitsOf 209 = .ok (.isub, 1) := by decide +kernel
theorem dX12_bitsOf_210 : decode cX12_bitsOf 210 = .ok (.lshr, 1) := by decide +kernel
theorem dX12_bitsOf_211 : decode cX12_bitsOf 211 = .ok (.lconst 1, 1) := by decide +kernel
theorem dX12_bitsOf_212 : decode cX12_bitsOf 212 = .ok (.land, 1) := by decide +kernel
theorem dX12_bitsOf_213 : decode cX12_bitsOf 213 = .ok (.lstore 15, 2) := by decide +kernel
theorem dX12_bitsOf_215 : decode cX12_bitsOf 215 = .ok (.lload 12, 2) := by decide +kernel
theorem dX12_bitsOf_217 : decode cX12_bitsOf 217 = .ok (.lload 15, 2) := by decide +kernel
theorem dX12_bitsOf_219 : decode cX12_bitsOf 219 = .ok (.iload 14, 2) := by decide +kernel
theorem dX12_bitsOf_221 : decode cX12_bitsOf 221 = .ok (.lshl, 1) := by decide +kernel
theorem dX12_bitsOf_222 : decode cX12_bitsOf 222 = .ok (.lor, 1) := by decide +kernel
theorem dX12_bitsOf_223 : decode cX12_bitsOf 223 = .ok (.lstore 12, 2) := by decide +kernel
theorem dX12_bitsOf_225 : decode cX12_bitsOf 225 = .ok (.iinc 14 1, 3) := by decide +kernel
theorem dX12_bitsOf_228 : decode cX12_bitsOf 228 = .ok (.goto (-91), 3) := by decide +kernel
theorem dX12_bitsOf_231 : decode cX12_bitsOf 231 = .ok (.aload_n 0, 1) := by decide +kernel
theorem dX12_bitsOf_232 : decode cX12_bitsOf 232 = .ok (.aload_n 0, 1) := by decide +kernel
theorem dX12_bitsOf_233 : decode cX12_bitsOf 233 = .ok (.iconst 4, 1) := by decide +kernel
theorem dX12_bitsOf_234 : decode cX12_bitsOf 234 = .ok (.iconst 0, 1) := by decide +kernel
theorem dX12_bitsOf_235 : decode cX12_bitsOf 235 = .ok (.invokevirtual 121, 3) := by decide +kernel
theorem dX12_bitsOf_238 : decode cX12_bitsOf 238 = .ok (.lload 12, 2) := by decide +kernel
theorem dX12_bitsOf_240 : decode cX12_bitsOf 240 = .ok (.invokevirtual 151, 3) := by decide +kernel
theorem dX12_bitsOf_243 : decode cX12_bitsOf 243 = .ok (.return_, 1) := by decide +kernel
def F_X12_bitsOf_c64 (τ : MS) : Option (MS) := some ((F_X12_none τ))
def F_X12_bitsOf_c215 (k : MS → Int32 → Int32 → Int32 → Int64 → Int64 → Int32 → Int32 → Int32 → Int64 → Int32 → Option (MS)) (τ : MS) (w1 : Int32) (w2 : Int32) (w4 : Int32) (w5 : Int64) (w7 : Int64) (w9 : Int32) (w10 : Int32) (w11 : Int32) (w12 : Int64) (w14 : Int32) (w15 : Int64) : Option (MS) := (k τ w1 w2 w4 w5 w7 w9 w10 w11 (w12 ||| (j_lshl w15 w14)) (w14 + (1)))
def F_X12_bitsOf_c183 (k : MS → Int32 → Int32 → Int32 → Int64 → Int64 → Int32 → Int32 → Int32 → Int64 → Int32 → Option (MS)) (τ : MS) (w1 : Int32) (w2 : Int32) (w4 : Int32) (w5 : Int64) (w7 : Int64) (w9 : Int32) (w10 : Int32) (w11 : Int32) (w12 : Int64) (w14 : Int32) (w15 : Int64) : Option (MS) := (if w14 < w10 then (F_X12_bitsOf_c215 k τ w1 w2 w4 w5 w7 w9 w10 w11 w12 w14 w15) else (if (w10 + w11) ≤ w14 then (F_X12_bitsOf_c215 k τ w1 w2 w4 w5 w7 w9 w10 w11 w12 w14 w15) else (F_X12_bitsOf_c215 k τ w1 w2 w4 w5 w7 w9 w10 w11 w12 w14 ((j_lshr w5 ((w9 + w14) - w10)) &&& (1 : Int64)))))
def F_X12_bitsOf_c160 (k : MS → Int32 → Int32 → Int32 → Int64 → Int64 → Int32 → Int32 → Int32 → Int64 → Int32 → Option (MS)) (τ : MS) (w1 : Int32) (w2 : Int32) (w4 : Int32) (w5 : Int64) (w7 : Int64) (w9 : Int32) (w10 : Int32) (w11 : Int32) (w12 : Int64) (w14 : Int32) (w15 : Int64) : Option (MS) := (if w2 = 0 then (if w14 < (w10 + w11) then (F_X12_bitsOf_c183 k τ w1 w2 w4 w5 w7 w9 w10 w11 w12 w14 w15) else (F_X12_bitsOf_c183 k τ w1 w2 w4 w5 w7 w9 w10 w11 w12 w14 ((j_lshr w5 w4) &&& (1 : Int64)))) else (F_X12_bitsOf_c183 k τ w1 w2 w4 w5 w7 w9 w10 w11 w12 w14 w15))
def F_X12_bitsOf_c137 : Nat → MS → Int32 → Int32 → Int32 → Int64 → Int64 → Int32 → Int32 → Int32 → Int64 → Int32 → Option (MS)
  | 0, _, _, _, _, _, _, _, _, _, _, _ => none
  | n + 1, τ, w1, w2, w4, w5, w7, w9, w10, w11, w12, w14 => (if w1 ≤ w14 then ((F_X12_f τ (4 : Int32) (0 : Int32)).bind fun v8 => ((F_X12_put τ v8 w12).bind fun v9 => some (v9))) else (if w2 = (1 : Int32) then (F_X12_bitsOf_c160 (F_X12_bitsOf_c137 n) τ w1 w2 w4 w5 w7 w9 w10 w11 w12 w14 ((j_lshr w7 w14) &&& (1 : Int64))) else (F_X12_bitsOf_c160 (F_X12_bitsOf_c137 n) τ w1 w2 w4 w5 w7 w9 w10 w11 w12 w14 (0 : Int64))))
def F_X12_bitsOf_c131 (τ : MS) (w1 : Int32) (w2 : Int32) (w4 : Int32) (w5 : Int64) (w7 : Int64) (w9 : Int32) (w10 : Int32) (w11 : Int32) : Option (MS) := (F_X12_bitsOf_c137 70 τ w1 w2 w4 w5 w7 w9 w10 w11 (0 : Int64) (0 : Int32))
def F_X12_bitsOf_c122 (τ : MS) (w1 : Int32) (w2 : Int32) (w4 : Int32) (w5 : Int64) (w7 : Int64) (w9 : Int32) (w10 : Int32) : Option (MS) := (F_X12_bitsOf_c131 τ w1 w2 w4 w5 w7 w9 w10 ((w4 - w9) + (1 : Int32)))
def F_X12_bitsOf_c86 (τ : MS) (w1 : Int32) (w2 : Int32) (w3 : Int32) (w4 : Int32) (w5 : Int64) : Option (MS) := ((F_X12_f τ (4 : Int32) (0 : Int32)).bind fun v6 => ((F_X12_reg τ v6).bind fun v7 => (if w4 < w3 then (F_X12_bitsOf_c122 τ w1 w2 w4 w5 (F_X12_cut v7 w1) (0 : Int32) (w1 - w3)) else (F_X12_bitsOf_c122 τ w1 w2 w4 w5 (F_X12_cut v7 w1) w3 (0 : Int32)))))
def F_X12_bitsOf_c5 (τ : MS) (w1 : Int32) : Option (MS) := ((F_X12_f τ (30 : Int32) (29 : Int32)).bind fun v1 => ((F_X12_f τ (21 : Int32) (16 : Int32)).bind fun v2 => ((F_X12_f τ (15 : Int32) (10 : Int32)).bind fun v3 => (if v1 = (3 : Int32) then (F_X12_bitsOf_c64 τ) else (if (F_X12_on τ (22 : Int32)) = (F_X12_on τ (31 : Int32)) then (if w1 ≤ v2 then (F_X12_bitsOf_c64 τ) else (if v3 < w1 then ((F_X12_f τ (9 : Int32) (5 : Int32)).bind fun v4 => ((F_X12_reg τ v4).bind fun v5 => (F_X12_bitsOf_c86 τ w1 v1 v2 v3 (F_X12_cut v5 w1)))) else (F_X12_bitsOf_c64 τ))) else (F_X12_bitsOf_c64 τ))))))
def F_X12_bitsOf (σ : MS)  : Option (MS) := (F_X12_bitsOf_c5 σ (F_X12_width σ))
set_option maxHeartbeats 4000000 in
set_option maxRecDepth 100000 in
theorem c_X12_bitsOf (l : Launch) (z : Cx) (r : Nat → Nat) (σ : MS) (sz : Nat) (res : MS) (hf : F_X12_bitsOf σ = some res) : Met l yX12_bitsOf (wsC yX12_bitsOf cX12_bitsOf 17 none) { frames := 3, cells := 0, slots := 0, locals := 72 } (mPc z (mW z r σ) sz [.ref (r 0)]) (gM z (va_A (mW z r σ) sz) none (mW z r res)) 0 0 (va_A (mW z r σ) sz) := by
  refine mk_m_v (own := RX12) (wf := mW z r) (by decide) rfl sz _ (Nat.le_of_ble_eq_true rfl) (fun p e s m below meth c A H locs Q ls S hK hA hP hD hS hl hend => ?_)
  have hx := S.1
  have hb := S.2.1
  have hown := S.2.2.2.1
  have hts := S.2.2.2.2
  have hl : lv_has ls 17 [(0, .ref (r 0))] := hl
  have J_c64 : ∀ (τ : MS) (H : Heap) (locs : List Loc) (ls : Array Slot), F_X12_bitsOf_c64 τ = some res → va_P z.1 vwCl (mW z r τ) H → va_D A (mW z r τ) → va_S A s.heap H locs → lv_has ls 17 [(0, .ref (r 0))] → W p l e { frames := 3, cells := 0, slots := 0, locals := 72 } s m ([.ref (r 0)] : List Value).toArray below meth c H locs 0 0 Q (F0 m 64 ls []) := by
    intro τ H locs ls hf hP hD hS hl
    unfold F_X12_bitsOf_c64 at hf
    refine lv_aload_n hx hb dX12_bitsOf_64 rfl (lv_at hl 0 rfl) ?_
    refine k_X12_none S hK hA hP hD hS tl_X12_158 ⟨Nat.le_of_ble_eq_true rfl, Nat.le_of_ble_eq_true rfl⟩ hl.1 (Nat.le_of_ble_eq_true rfl) dX12_bitsOf_65 (fun H locs hP hD hS => ?_)
    exact hend (F_X12_none τ) H locs 68 ls (Option.some.inj hf) hP hD hS dX12_bitsOf_68
  have J_c137 : ∀ (n : Nat) (τ : MS) (w1 : Int32) (w2 : Int32) (w4 : Int32) (w5 : Int64) (w7 : Int64) (w9 : Int32) (w10 : Int32) (w11 : Int32) (w12 : Int64) (w14 : Int32) (H : Heap) (locs : List Loc) (ls : Array Slot), F_X12_bitsOf_c137 n τ w1 w2 w4 w5 w7 w9 w10 w11 w12 w14 = some res → va_P z.1 vwCl (mW z r τ) H → va_D A (mW z r τ) → va_S A s.heap H locs → lv_has ls 17 [(0, .ref (r 0)), (1, .int w1), (2, .int w2), (4, .int w4), (5, .long w5), (7, .long w7), (9, .int w9), (10, .int w10), (11, .int w11), (12, .long w12), (14, .int w14)] → W p l e { frames := 3, cells := 0, slots := 0, locals := 72 } s m ([.ref (r 0)] : List Value).toArray below meth c H locs 0 0 Q (F0 m 137 ls []) := by
    intro n
    induction n with
    | zero => intro τ w1 w2 w4 w5 w7 w9 w10 w11 w12 w14 H locs ls hf; rw [F_X12_bitsOf_c137] at hf; cases hf
    | succ n ih =>
      have J_c215 : ∀ (τ : MS) (w1 : Int32) (w2 : Int32) (w4 : Int32) (w5 : Int64) (w7 : Int64) (w9 : Int32) (w10 : Int32) (w11 : Int32) (w12 : Int64) (w14 : Int32) (w15 : Int64) (H : Heap) (locs : List Loc) (ls : Array Slot), F_X12_bitsOf_c215 (F_X12_bitsOf_c137 n) τ w1 w2 w4 w5 w7 w9 w10 w11 w12 w14 w15 = some res → va_P z.1 vwCl (mW z r τ) H → va_D A (mW z r τ) → va_S A s.heap H locs → lv_has ls 17 [(0, .ref (r 0)), (1, .int w1), (2, .int w2), (4, .int w4), (5, .long w5), (7, .long w7), (9, .int w9), (10, .int w10), (11, .int w11), (12, .long w12), (14, .int w14), (15, .long w15)] → W p l e { frames := 3, cells := 0, slots := 0, locals := 72 } s m ([.ref (r 0)] : List Value).toArray below meth c H locs 0 0 Q (F0 m 215 ls []) := by
        intro τ w1 w2 w4 w5 w7 w9 w10 w11 w12 w14 w15 H locs ls hf hP hD hS hl
        unfold F_X12_bitsOf_c215 at hf
        refine lv_lload hx hb dX12_bitsOf_215 (lv_at hl 9 rfl) ?_
        refine lv_lload hx hb dX12_bitsOf_217 (lv_at hl 11 rfl) ?_
        refine lv_iload hx hb dX12_bitsOf_219 (lv_at hl 10 rfl) ?_
        refine lv_lshl (v := (j_lshl w15 w14)) hx hb dX12_bitsOf_221 rfl ?_
        refine lv_lor hx hb dX12_bitsOf_222 ?_
        refine lv_lstore (lv' := [(12, .long (w12 ||| (j_lshl w15 w14))), (0, .ref (r 0)), (1, .int w1), (2, .int w2), (4, .int w4), (5, .long w5), (7, .long w7), (9, .int w9), (10, .int w10), (11, .int w11), (14, .int w14), (15, .long w15)]) hx hb dX12_bitsOf_223 hl (by decide) rfl (fun ls hl => ?_)
        refine lv_iinc (v := w14 + (1)) (lv' := [(14, .int (w14 + (1))), (12, .long (w12 ||| (j_lshl w15 w14))), (0, .ref (r 0)), (1, .int w1), (2, .int w2), (4, .int w4), (5, .long w5), (7, .long w7), (9, .int w9), (10, .int w10), (11, .int w11), (15, .long w15)]) hx hb dX12_bitsOf_225 hl (k := 10) rfl rfl (by decide) rfl (fun ls hl => ?_)
        refine lv_goto (tgt := 137) hx hb dX12_bitsOf_228 (by decide) ?_
        exact ih τ w1 w2 w4 w5 w7 w9 w10 w11 (w12 ||| (j_lshl w15 w14)) (w14 + (1)) H locs ls hf hP hD hS (lv_sub hl [2, 3, 4, 5, 6, 7, 8, 9, 10, 1, 0] rfl)
      have J_c183 : ∀ (τ : MS) (w1 : Int32) (w2 : Int32) (w4 : Int32) (w5 : Int64) (w7 : Int64) (w9 : Int32) (w10 : Int32) (w11 : Int32) (w12 : Int64) (w14 : Int32) (w15 : Int64) (H : Heap) (locs : List Loc) (ls : Array Slot), F_X12_bitsOf_c183 (F_X12_bitsOf_c137 n) τ w1 w2 w4 w5 w7 w9 w10 w11 w12 w14 w15 = some res → va_P z.1 vwCl (mW z r τ) H → va_D A (mW z r τ) → va_S A s.heap H locs → lv_has ls 17 [(0, .ref (r 0)), (1, .int w1), (2, .int w2), (4, .int w4), (5, .long w5), (7, .long w7), (9, .int w9), (10, .int w10), (11, .int w11), (12, .long w12), (14, .int w14), (15, .long w15)] → W p l e { frames := 3, cells := 0, slots := 0, locals := 72 } s m ([.ref (r 0)] : List Value).toArray below meth c H locs 0 0 Q (F0 m 183 ls []) := by
        intro τ w1 w2 w4 w5 w7 w9 w10 w11 w12 w14 w15 H locs ls hf hP hD hS hl
        unfold F_X12_bitsOf_c183 at hf
        refine lv_iload hx hb dX12_bitsOf_183 (lv_at hl 10 rfl) ?_
        refine lv_iload hx hb dX12_bitsOf_185 (lv_at hl 7 rfl) ?_
        refine lv_icmp_lt (tgt := 215) hx hb dX12_bitsOf_187 (by decide) (fun c_187 => ?_) (fun c_187 => ?_)
        · rw [if_pos c_187] at hf
          exact J_c215 τ w1 w2 w4 w5 w7 w9 w10 w11 w12 w14 w15 H locs ls hf hP hD hS (lv_sub hl [0, 1, 2, 3, 4, 5, 6, 7, 8, 9, 10, 11] rfl)
        · rw [if_neg c_187] at hf
          refine lv_iload hx hb dX12_bitsOf_190 (lv_at hl 10 rfl) ?_
          refine lv_iload hx hb dX12_bitsOf_192 (lv_at hl 7 rfl) ?_
          refine lv_iload hx hb dX12_bitsOf_194 (lv_at hl 8 rfl) ?_
          refine lv_iadd hx hb dX12_bitsOf_196 ?_
          refine lv_icmp_ge (tgt := 215) hx hb dX12_bitsOf_197 (by decide) (fun c_197 => ?_) (fun c_197 => ?_)
          · rw [if_pos c_197] at hf
            exact J_c215 τ w1 w2 w4 w5 w7 w9 w10 w11 w12 w14 w15 H locs ls hf hP hD hS (lv_sub hl [0, 1, 2, 3, 4, 5, 6, 7, 8, 9, 10, 11] rfl)
          · rw [if_neg c_197] at hf
            refine lv_lload hx hb dX12_bitsOf_200 (lv_at hl 4 rfl) ?_
            refine lv_iload hx hb dX12_bitsOf_202 (lv_at hl 6 rfl) ?_
            refine lv_iload hx hb dX12_bitsOf_204 (lv_at hl 10 rfl) ?_
            refine lv_iadd hx hb dX12_bitsOf_206 ?_
            refine lv_iload hx hb dX12_bitsOf_207 (lv_at hl 7 rfl) ?_
            refine lv_isub hx hb dX12_bitsOf_209 ?_
            refine lv_lshr (v := (j_lshr w5 ((w9 + w14) - w10))) hx hb dX12_bitsOf_210 rfl ?_
            refine lv_lconst (v := 1) hx hb dX12_bitsOf_211 (by decide) ?_
            refine lv_land hx hb dX12_bitsOf_212 ?_
            refine lv_lstore (lv' := [(15, .long ((j_lshr w5 ((w9 + w14) - w10)) &&& (1 : Int64))), (0, .ref (r 0)), (1, .int w1), (2, .int w2), (4, .int w4), (5, .long w5), (7, .long w7), (9, .int w9), (10, .int w10), (11, .int w11), (12, .long w12), (14, .int w14)]) hx hb dX12_bitsOf_213 hl (by decide) rfl (fun ls hl => ?_)
            exact J_c215 τ w1 w2 w4 w5 w7 w9 w10 w11 w12 w14 ((j_lshr w5 ((w9 + w14) - w10)) &&& (1 : Int64)) H locs ls hf hP hD hS (lv_sub hl [1, 2, 3, 4, 5, 6, 7, 8, 9, 10, 11, 0] rfl)
      have J_c160 : ∀ (τ : MS) (w1 : Int32) (w2 : Int32) (w4 : Int32) (w5 : Int64) (w7 : Int64) (w9 : Int32) (w10 : Int32) (w11 : Int32) (w12 : Int64) (w14 : Int32) (w15 : Int64) (H : Heap) (locs : List Loc) (ls : Array Slot), F_X12_bitsOf_c160 (F_X12_bitsOf_c137 n) τ w1 w2 w4 w5 w7 w9 w10 w11 w12 w14 w15 = some res → va_P z.1 vwCl (mW z r τ) H → va_D A (mW z r τ) → va_S A s.heap H locs → lv_has ls 17 [(0, .ref (r 0)), (1, .int w1), (2, .int w2), (4, .int w4), (5, .long w5), (7, .long w7), (9, .int w9), (10, .int w10), (11, .int w11), (12, .long w12), (14, .int w14), (15, .long w15)] → W p l e { frames := 3, cells := 0, slots := 0, locals := 72 } s m ([.ref (r 0)] : List Value).toArray below meth c H locs 0 0 Q (F0 m 160 ls []) := by
        intro τ w1 w2 w4 w5 w7 w9 w10 w11 w12 w14 w15 H locs ls hf hP hD hS hl
        unfold F_X12_bitsOf_c160 at hf
        refine lv_iload_n hx hb dX12_bitsOf_160 rfl (lv_at hl 2 rfl) ?_
        refine lv_if_ne (tgt := 183) hx hb dX12_bitsOf_161 (by decide) (fun c_161 => ?_) (fun c_161 => ?_)
        · rw [if_neg c_161] at hf
          exact J_c183 τ w1 w2 w4 w5 w7 w9 w10 w11 w12 w14 w15 H locs ls hf hP hD hS (lv_sub hl [0, 1, 2, 3, 4, 5, 6, 7, 8, 9, 10, 11] rfl)
        · rw [if_pos c_161] at hf
          refine lv_iload hx hb dX12_bitsOf_164 (lv_at hl 10 rfl) ?_
          refine lv_iload hx hb dX12_bitsOf_166 (lv_at hl 7 rfl) ?_
          refine lv_iload hx hb dX12_bitsOf_168 (lv_at hl 8 rfl) ?_
          refine lv_iadd hx hb dX12_bitsOf_170 ?_
          refine lv_icmp_lt (tgt := 183) hx hb dX12_bitsOf_171 (by decide) (fun c_171 => ?_) (fun c_171 => ?_)
          · rw [if_pos c_171] at hf
            exact J_c183 τ w1 w2 w4 w5 w7 w9 w10 w11 w12 w14 w15 H locs ls hf hP hD hS (lv_sub hl [0, 1, 2, 3, 4, 5, 6, 7, 8, 9, 10, 11] rfl)
          · rw [if_neg c_171] at hf
            refine lv_lload hx hb dX12_bitsOf_174 (lv_at hl 4 rfl) ?_
            refine lv_iload hx hb dX12_bitsOf_176 (lv_at hl 3 rfl) ?_
            refine lv_lshr (v := (j_lshr w5 w4)) hx hb dX12_bitsOf_178 rfl ?_
            refine lv_lconst (v := 1) hx hb dX12_bitsOf_179 (by decide) ?_
            refine lv_land hx hb dX12_bitsOf_180 ?_
            refine lv_lstore (lv' := [(15, .long ((j_lshr w5 w4) &&& (1 : Int64))), (0, .ref (r 0)), (1, .int w1), (2, .int w2), (4, .int w4), (5, .long w5), (7, .long w7), (9, .int w9), (10, .int w10), (11, .int w11), (12, .long w12), (14, .int w14)]) hx hb dX12_bitsOf_181 hl (by decide) rfl (fun ls hl => ?_)
            exact J_c183 τ w1 w2 w4 w5 w7 w9 w10 w11 w12 w14 ((j_lshr w5 w4) &&& (1 : Int64)) H locs ls hf hP hD hS (lv_sub hl [1, 2, 3, 4, 5, 6, 7, 8, 9, 10, 11, 0] rfl)
      intro τ w1 w2 w4 w5 w7 w9 w10 w11 w12 w14 H locs ls hf hP hD hS hl
      rw [F_X12_bitsOf_c137] at hf
      refine lv_iload hx hb dX12_bitsOf_137 (lv_at hl 10 rfl) ?_
      refine lv_iload_n hx hb dX12_bitsOf_139 rfl (lv_at hl 1 rfl) ?_
      refine lv_icmp_ge (tgt := 231) hx hb dX12_bitsOf_140 (by decide) (fun c_140 => ?_) (fun c_140 => ?_)
      · rw [if_pos c_140] at hf
        refine lv_aload_n hx hb dX12_bitsOf_231 rfl (lv_at hl 0 rfl) ?_
        refine lv_aload_n hx hb dX12_bitsOf_232 rfl (lv_at hl 0 rfl) ?_
        refine lv_iconst (v := 4) hx hb dX12_bitsOf_233 (by decide) ?_
        refine lv_iconst (v := 0) hx hb dX12_bitsOf_234 (by decide) ?_
        obtain ⟨v8, e_v8, hf⟩ := Option.bind_eq_some_iff.mp hf
        refine k_X12_f (a0 := (4 : Int32)) (a1 := (0 : Int32)) (res := v8) (hres := e_v8) S hK hP tl_X12_121 ⟨Nat.le_of_ble_eq_true rfl, Nat.le_of_ble_eq_true rfl⟩ hl.1 (Nat.le_of_ble_eq_true rfl) dX12_bitsOf_235 ?_
        refine lv_lload hx hb dX12_bitsOf_238 (lv_at hl 9 rfl) ?_
        obtain ⟨v9, e_v9, hf⟩ := Option.bind_eq_some_iff.mp hf
        refine k_X12_put (a0 := v8) (a1 := w12) (res := v9) (hres := e_v9) S hK hA hP hD hS tl_X12_151 ⟨Nat.le_of_ble_eq_true rfl, Nat.le_of_ble_eq_true rfl⟩ hl.1 (Nat.le_of_ble_eq_true rfl) dX12_bitsOf_240 (fun H locs hP hD hS => ?_)
        exact hend v9 H locs 243 ls (Option.some.inj hf) hP hD hS dX12_bitsOf_243
      · rw [if_neg c_140] at hf
        refine lv_lconst (v := 0) hx hb dX12_bitsOf_143 (by decide) ?_
        refine lv_lstore (lv' := [(15, .long (0 : Int64)), (0, .ref (r 0)), (1, .int w1), (2, .int w2), (4, .int w4), (5, .long w5), (7, .long w7), (9, .int w9), (10, .int w10), (11, .int w11), (12, .long w12), (14, .int w14)]) hx hb dX12_bitsOf_144 hl (by decide) rfl (fun ls hl => ?_)
        refine lv_iload_n hx hb dX12_bitsOf_146 rfl (lv_at hl 3 rfl) ?_
        refine lv_iconst (v := 1) hx hb dX12_bitsOf_147 (by decide) ?_
        refine lv_icmp_ne (tgt := 160) hx hb dX12_bitsOf_148 (by decide) (fun c_148 => ?_) (fun c_148 => ?_)
        · rw [if_neg c_148] at hf
          exact J_c160 τ w1 w2 w4 w5 w7 w9 w10 w11 w12 w14 (0 : Int64) H locs ls hf hP hD hS (lv_sub hl [1, 2, 3, 4, 5, 6, 7, 8, 9, 10, 11, 0] rfl)
        · rw [if_pos c_148] at hf
          refine lv_lload hx hb dX12_bitsOf_151 (lv_at hl 6 rfl) ?_
          refine lv_iload hx hb dX12_bitsOf_153 (lv_at hl 11 rfl) ?_
          refine lv_lshr (v := (j_lshr w7 w14)) hx hb dX12_bitsOf_155 rfl ?_
          refine lv_lconst (v := 1) hx hb dX12_bitsOf_156 (by decide) ?_
          refine lv_land hx hb dX12_bitsOf_157 ?_
          refine lv_lstore (lv' := [(15, .long ((j_lshr w7 w14) &&& (1 : Int64))), (0, .ref (r 0)), (1, .int w1), (2, .int w2), (4, .int w4), (5, .long w5), (7, .long w7), (9, .int w9), (10, .int w10), (11, .int w11), (12, .long w12), (14, .int w14)]) hx hb dX12_bitsOf_158 hl (by decide) rfl (fun ls hl => ?_)
          exact J_c160 τ w1 w2 w4 w5 w7 w9 w10 w11 w12 w14 ((j_lshr w7 w14) &&& (1 : Int64)) H locs ls hf hP hD hS (lv_sub hl [1, 2, 3, 4, 5, 6, 7, 8, 9, 10, 11, 0] rfl)
  have J_c131 : ∀ (τ : MS) (w1 : Int32) (w2 : Int32) (w4 : Int32) (w5 : Int64) (w7 : Int64) (w9 : Int32) (w10 : Int32) (w11 : Int32) (H : Heap) (locs : List Loc) (ls : Array Slot), F_X12_bitsOf_c131 τ w1 w2 w4 w5 w7 w9 w10 w11 = some res → va_P z.1 vwCl (mW z r τ) H → va_D A (mW z r τ) → va_S A s.heap H locs → lv_has ls 17 [(0, .ref (r 0)), (1, .int w1), (2, .int w2), (4, .int w4), (5, .long w5), (7, .long w7), (9, .int w9), (10, .int w10), (11, .int w11)] → W p l e { frames := 3, cells := 0, slots := 0, locals := 72 } s m ([.ref (r 0)] : List Value).toArray below meth c H locs 0 0 Q (F0 m 131 ls []) := by
    intro τ w1 w2 w4 w5 w7 w9 w10 w11 H locs ls hf hP hD hS hl
    unfold F_X12_bitsOf_c131 at hf
    refine lv_lconst (v := 0) hx hb dX12_bitsOf_131 (by decide) ?_
    refine lv_lstore (lv' := [(12, .long (0 : Int64)), (0, .ref (r 0)), (1, .int w1), (2, .int w2), (4, .int w4), (5, .long w5), (7, .long w7), (9, .int w9), (10, .int w10), (11, .int w11)]) hx hb dX12_bitsOf_132 hl (by decide) rfl (fun ls hl => ?_)
    refine lv_iconst (v := 0) hx hb dX12_bitsOf_134 (by decide) ?_
    refine lv_istore (lv' := [(14, .int (0 : Int32)), (12, .long (0 : Int64)), (0, .ref (r 0)), (1, .int w1), (2, .int w2), (4, .int w4), (5, .long w5), (7, .long w7), (9, .int w9), (10, .int w10), (11, .int w11)]) hx hb dX12_bitsOf_135 hl (by decide) rfl (fun ls hl => ?_)
    exact J_c137 70 τ w1 w2 w4 w5 w7 w9 w10 w11 (0 : Int64) (0 : Int32) H locs ls hf hP hD hS (lv_sub hl [2, 3, 4, 5, 6, 7, 8, 9, 10, 1, 0] rfl)
  have J_c122 : ∀ (τ : MS) (w1 : Int32) (w2 : Int32) (w4 : Int32) (w5 : Int64) (w7 : Int64) (w9 : Int32) (w10 : Int32) (H : Heap) (locs : List Loc) (ls : Array Slot), F_X12_bitsOf_c122 τ w1 w2 w4 w5 w7 w9 w10 = some res → va_P z.1 vwCl (mW z r τ) H → va_D A (mW z r τ) → va_S A s.heap H locs → lv_has ls 17 [(0, .ref (r 0)), (1, .int w1), (2, .int w2), (4, .int w4), (5, .long w5), (7, .long w7), (9, .int w9), (10, .int w10)] → W p l e { frames := 3, cells := 0, slots := 0, locals := 72 } s m ([.ref (r 0)] : List Value).toArray below meth c H locs 0 0 Q (F0 m 122 ls []) := by
    intro τ w1 w2 w4 w5 w7 w9 w10 H locs ls hf hP hD hS hl
    unfold F_X12_bitsOf_c122 at hf
    refine lv_iload hx hb dX12_bitsOf_122 (lv_at hl 3 rfl) ?_
    refine lv_iload hx hb dX12_bitsOf_124 (lv_at hl 6 rfl) ?_
    refine lv_isub hx hb dX12_bitsOf_126 ?_
    refine lv_iconst (v := 1) hx hb dX12_bitsOf_127 (by decide) ?_
    refine lv_iadd hx hb dX12_bitsOf_128 ?_
    refine lv_istore (lv' := [(11, .int ((w4 - w9) + (1 : Int32))), (0, .ref (r 0)), (1, .int w1), (2, .int w2), (4, .int w4), (5, .long w5), (7, .long w7), (9, .int w9), (10, .int w10)]) hx hb dX12_bitsOf_129 hl (by decide) rfl (fun ls hl => ?_)
    exact J_c131 τ w1 w2 w4 w5 w7 w9 w10 ((w4 - w9) + (1 : Int32)) H locs ls hf hP hD hS (lv_sub hl [1, 2, 3, 4, 5, 6, 7, 8, 0] rfl)
  have J_c86 : ∀ (τ : MS) (w1 : Int32) (w2 : Int32) (w3 : Int32) (w4 : Int32) (w5 : Int64) (H : Heap) (locs : List Loc) (ls : Array Slot), F_X12_bitsOf_c86 τ w1 w2 w3 w4 w5 = some res → va_P z.1 vwCl (mW z r τ) H → va_D A (mW z r τ) → va_S A s.heap H locs → lv_has ls 17 [(0, .ref (r 0)), (1, .int w1), (2, .int w2), (3, .int w3), (4, .int w4), (5, .long w5)] → W p l e { frames := 3, cells := 0, slots := 0, locals := 72 } s m ([.ref (r 0)] : List Value).toArray below meth c H locs 0 0 Q (F0 m 86 ls []) := by
    intro τ w1 w2 w3 w4 w5 H locs ls hf hP hD hS hl
    unfold F_X12_bitsOf_c86 at hf
    refine lv_aload_n hx hb dX12_bitsOf_86 rfl (lv_at hl 0 rfl) ?_
    refine lv_aload_n hx hb dX12_bitsOf_87 rfl (lv_at hl 0 rfl) ?_
    refine lv_iconst (v := 4) hx hb dX12_bitsOf_88 (by decide) ?_
    refine lv_iconst (v := 0) hx hb dX12_bitsOf_89 (by decide) ?_
    obtain ⟨v6, e_v6, hf⟩ := Option.bind_eq_some_iff.mp hf
    refine k_X12_f (a0 := (4 : Int32)) (a1 := (0 : Int32)) (res := v6) (hres := e_v6) S hK hP tl_X12_121 ⟨Nat.le_of_ble_eq_true rfl, Nat.le_of_ble_eq_true rfl⟩ hl.1 (Nat.le_of_ble_eq_true rfl) dX12_bitsOf_90 ?_
    obtain ⟨v7, e_v7, hf⟩ := Option.bind_eq_some_iff.mp hf
    refine k_X12_reg (a0 := v6) (res := v7) (hres := e_v7) S hK hP tl_X12_161 ⟨Nat.le_of_ble_eq_true rfl, Nat.le_of_ble_eq_true rfl⟩ hl.1 (Nat.le_of_ble_eq_true rfl) dX12_bitsOf_93 ?_
    refine lv_iload_n hx hb dX12_bitsOf_96 rfl (lv_at hl 1 rfl) ?_
    refine k_X12_cut (a0 := v7) (a1 := w1) S tl_X12_138 ⟨Nat.le_of_ble_eq_true rfl, Nat.le_of_ble_eq_true rfl⟩ hl.1 (Nat.le_of_ble_eq_true rfl) dX12_bitsOf_97 ?_
    refine lv_lstore (lv' := [(7, .long (F_X12_cut v7 w1)), (0, .ref (r 0)), (1, .int w1), (2, .int w2), (3, .int w3), (4, .int w4), (5, .long w5)]) hx hb dX12_bitsOf_100 hl (by decide) rfl (fun ls hl => ?_)
    refine lv_iconst (v := 0) hx hb dX12_bitsOf_102 (by decide) ?_
    refine lv_istore (lv' := [(9, .int (0 : Int32)), (7, .long (F_X12_cut v7 w1)), (0, .ref (r 0)), (1, .int w1), (2, .int w2), (3, .int w3), (4, .int w4), (5, .long w5)]) hx hb dX12_bitsOf_103 hl (by decide) rfl (fun ls hl => ?_)
    refine lv_iload_n hx hb dX12_bitsOf_105 rfl (lv_at hl 3 rfl) ?_
    refine lv_iload_n hx hb dX12_bitsOf_106 rfl (lv_at hl 5 rfl) ?_
    refine lv_isub hx hb dX12_bitsOf_107 ?_
    refine lv_istore (lv' := [(10, .int (w1 - w3)), (9, .int (0 : Int32)), (7, .long (F_X12_cut v7 w1)), (0, .ref (r 0)), (1, .int w1), (2, .int w2), (3, .int w3), (4, .int w4), (5, .long w5)]) hx hb dX12_bitsOf_108 hl (by decide) rfl (fun ls hl => ?_)
    refine lv_iload hx hb dX12_bitsOf_110 (lv_at hl 7 rfl) ?_
    refine lv_iload_n hx hb dX12_bitsOf_112 rfl (lv_at hl 6 rfl) ?_
    refine lv_icmp_lt (tgt := 122) hx hb dX12_bitsOf_113 (by decide) (fun c_113 => ?_) (fun c_113 => ?_)
    · rw [if_pos c_113] at hf
      exact J_c122 τ w1 w2 w4 w5 (F_X12_cut v7 w1) (0 : Int32) (w1 - w3) H locs ls hf hP hD hS (lv_sub hl [3, 4, 5, 7, 8, 2, 1, 0] rfl)
    · rw [if_neg c_113] at hf
      refine lv_iload_n hx hb dX12_bitsOf_116 rfl (lv_at hl 6 rfl) ?_
      refine lv_istore (lv' := [(9, .int w3), (10, .int (w1 - w3)), (7, .long (F_X12_cut v7 w1)), (0, .ref (r 0)), (1, .int w1), (2, .int w2), (3, .int w3), (4, .int w4), (5, .long w5)]) hx hb dX12_bitsOf_117 hl (by decide) rfl (fun ls hl => ?_)
      refine lv_iconst (v := 0) hx hb dX12_bitsOf_119 (by decide) ?_
      refine lv_istore (lv' := [(10, .int (0 : Int32)), (9, .int w3), (7, .long (F_X12_cut v7 w1)), (0, .ref (r 0)), (1, .int w1), (2, .int w2), (3, .int w3), (4, .int w4), (5, .long w5)]) hx hb dX12_bitsOf_120 hl (by decide) rfl (fun ls hl => ?_)
      exact J_c122 τ w1 w2 w4 w5 (F_X12_cut v7 w1) w3 (0 : Int32) H locs ls hf hP hD hS (lv_sub hl [3, 4, 5, 7, 8, 2, 1, 0] rfl)
  have J_c5 : ∀ (τ : MS) (w1 : Int32) (H : Heap) (locs : List Loc) (ls : Array Slot), F_X12_bitsOf_c5 τ w1 = some res → va_P z.1 vwCl (mW z r τ) H → va_D A (mW z r τ) → va_S A s.heap H locs → lv_has ls 17 [(0, .ref (r 0)), (1, .int w1)] → W p l e { frames := 3, cells := 0, slots := 0, locals := 72 } s m ([.ref (r 0)] : List Value).toArray below meth c H locs 0 0 Q (F0 m 5 ls []) := by
    intro τ w1 H locs ls hf hP hD hS hl
    unfold F_X12_bitsOf_c5 at hf
    refine lv_aload_n hx hb dX12_bitsOf_5 rfl (lv_at hl 0 rfl) ?_
    refine lv_bipush (v := 30) hx hb dX12_bitsOf_6 (by decide) ?_
    refine lv_bipush (v := 29) hx hb dX12_bitsOf_8 (by decide) ?_
    obtain ⟨v1, e_v1, hf⟩ := Option.bind_eq_some_iff.mp hf
    refine k_X12_f (a0 := (30 : Int32)) (a1 := (29 : Int32)) (res := v1) (hres := e_v1) S hK hP tl_X12_121 ⟨Nat.le_of_ble_eq_true rfl, Nat.le_of_ble_eq_true rfl⟩ hl.1 (Nat.le_of_ble_eq_true rfl) dX12_bitsOf_10 ?_
    refine lv_istore_n (lv' := [(2, .int v1), (0, .ref (r 0)), (1, .int w1)]) hx hb dX12_bitsOf_13 rfl hl (by decide) rfl (fun ls hl => ?_)
    refine lv_aload_n hx hb dX12_bitsOf_14 rfl (lv_at hl 1 rfl) ?_
    refine lv_bipush (v := 21) hx hb dX12_bitsOf_15 (by decide) ?_
    refine lv_bipush (v := 16) hx hb dX12_bitsOf_17 (by decide) ?_
    obtain ⟨v2, e_v2, hf⟩ := Option.bind_eq_some_iff.mp hf
    refine k_X12_f (a0 := (21 : Int32)) (a1 := (16 : Int32)) (res := v2) (hres := e_v2) S hK hP tl_X12_121 ⟨Nat.le_of_ble_eq_true rfl, Nat.le_of_ble_eq_true rfl⟩ hl.1 (Nat.le_of_ble_eq_true rfl) dX12_bitsOf_19 ?_
    refine lv_istore_n (lv' := [(3, .int v2), (2, .int v1), (0, .ref (r 0)), (1, .int w1)]) hx hb dX12_bitsOf_22 rfl hl (by decide) rfl (fun ls hl => ?_)
    refine lv_aload_n hx hb dX12_bitsOf_23 rfl (lv_at hl 2 rfl) ?_
    refine lv_bipush (v := 15) hx hb dX12_bitsOf_24 (by decide) ?_
    refine lv_bipush (v := 10) hx hb dX12_bitsOf_26 (by decide) ?_
    obtain ⟨v3, e_v3, hf⟩ := Option.bind_eq_some_iff.mp hf
    refine k_X12_f (a0 := (15 : Int32)) (a1 := (10 : Int32)) (res := v3) (hres := e_v3) S hK hP tl_X12_121 ⟨Nat.le_of_ble_eq_true rfl, Nat.le_of_ble_eq_true rfl⟩ hl.1 (Nat.le_of_ble_eq_true rfl) dX12_bitsOf_28 ?_
    refine lv_istore (lv' := [(4, .int v3), (3, .int v2), (2, .int v1), (0, .ref (r 0)), (1, .int w1)]) hx hb dX12_bitsOf_31 hl (by decide) rfl (fun ls hl => ?_)
    refine lv_iload_n hx hb dX12_bitsOf_33 rfl (lv_at hl 2 rfl) ?_
    refine lv_iconst (v := 3) hx hb dX12_bitsOf_34 (by decide) ?_
    refine lv_icmp_eq (tgt := 64) hx hb dX12_bitsOf_35 (by decide) (fun c_35 => ?_) (fun c_35 => ?_)
    · rw [if_pos c_35] at hf
      exact J_c64 τ H locs ls hf hP hD hS (lv_sub hl [3] rfl)
    · rw [if_neg c_35] at hf
      refine lv_aload_n hx hb dX12_bitsOf_38 rfl (lv_at hl 3 rfl) ?_
      refine lv_bipush (v := 22) hx hb dX12_bitsOf_39 (by decide) ?_
      refine k_X12_on (a0 := (22 : Int32)) S hK hP tl_X12_118 ⟨Nat.le_of_ble_eq_true rfl, Nat.le_of_ble_eq_true rfl⟩ hl.1 (Nat.le_of_ble_eq_true rfl) dX12_bitsOf_41 ?_
      refine lv_aload_n hx hb dX12_bitsOf_44 rfl (lv_at hl 3 rfl) ?_
      refine lv_bipush (v := 31) hx hb dX12_bitsOf_45 (by decide) ?_
      refine k_X12_on (a0 := (31 : Int32)) S hK hP tl_X12_118 ⟨Nat.le_of_ble_eq_true rfl, Nat.le_of_ble_eq_true rfl⟩ hl.1 (Nat.le_of_ble_eq_true rfl) dX12_bitsOf_47 ?_
      refine gz_cne (tgt := 64) hx hb dX12_bitsOf_50 (by decide) (fun c_50 => ?_) (fun c_50 => ?_)
      · rw [if_neg c_50] at hf
        exact J_c64 τ H locs ls hf hP hD hS (lv_sub hl [3] rfl)
      · rw [if_pos c_50] at hf
        refine lv_iload_n hx hb dX12_bitsOf_53 rfl (lv_at hl 1 rfl) ?_
        refine lv_iload_n hx hb dX12_bitsOf_54 rfl (lv_at hl 4 rfl) ?_
        refine lv_icmp_ge (tgt := 64) hx hb dX12_bitsOf_55 (by decide) (fun c_55 => ?_) (fun c_55 => ?_)
        · rw [if_pos c_55] at hf
          exact J_c64 τ H locs ls hf hP hD hS (lv_sub hl [3] rfl)
        · rw [if_neg c_55] at hf
          refine lv_iload hx hb dX12_bitsOf_58 (lv_at hl 0 rfl) ?_
          refine lv_iload_n hx hb dX12_bitsOf_60 rfl (lv_at hl 4 rfl) ?_
          refine lv_icmp_lt (tgt := 69) hx hb dX12_bitsOf_61 (by decide) (fun c_61 => ?_) (fun c_61 => ?_)
          · rw [if_pos c_61] at hf
            refine lv_aload_n hx hb dX12_bitsOf_69 rfl (lv_at hl 3 rfl) ?_
            refine lv_aload_n hx hb dX12_bitsOf_70 rfl (lv_at hl 3 rfl) ?_
            refine lv_bipush (v := 9) hx hb dX12_bitsOf_71 (by decide) ?_
            refine lv_iconst (v := 5) hx hb dX12_bitsOf_73 (by decide) ?_
            obtain ⟨v4, e_v4, hf⟩ := Option.bind_eq_some_iff.mp hf
            refine k_X12_f (a0 := (9 : Int32)) (a1 := (5 : Int32)) (res := v4) (hres := e_v4) S hK hP tl_X12_121 ⟨Nat.le_of_ble_eq_true rfl, Nat.le_of_ble_eq_true rfl⟩ hl.1 (Nat.le_of_ble_eq_true rfl) dX12_bitsOf_74 ?_
            obtain ⟨v5, e_v5, hf⟩ := Option.bind_eq_some_iff.mp hf
            refine k_X12_reg (a0 := v4) (res := v5) (hres := e_v5) S hK hP tl_X12_161 ⟨Nat.le_of_ble_eq_true rfl, Nat.le_of_ble_eq_true rfl⟩ hl.1 (Nat.le_of_ble_eq_true rfl) dX12_bitsOf_77 ?_
            refine lv_iload_n hx hb dX12_bitsOf_80 rfl (lv_at hl 4 rfl) ?_
            refine k_X12_cut (a0 := v5) (a1 := w1) S tl_X12_138 ⟨Nat.le_of_ble_eq_true rfl, Nat.le_of_ble_eq_true rfl⟩ hl.1 (Nat.le_of_ble_eq_true rfl) dX12_bitsOf_81 ?_
            refine lv_lstore (lv' := [(5, .long (F_X12_cut v5 w1)), (4, .int v3), (3, .int v2), (2, .int v1), (0, .ref (r 0)), (1, .int w1)]) hx hb dX12_bitsOf_84 hl (by decide) rfl (fun ls hl => ?_)
            exact J_c86 τ w1 v1 v2 v3 (F_X12_cut v5 w1) H locs ls hf hP hD hS (lv_sub hl [4, 5, 3, 2, 1, 0] rfl)
          · rw [if_neg c_61] at hf
            exact J_c64 τ H locs ls hf hP hD hS (lv_sub hl [3] rfl)
  unfold F_X12_bitsOf at hf
  refine lv_aload_n hx hb dX12_bitsOf_0 rfl (lv_at hl 0 rfl) ?_
  refine k_X12_width S hK hP tl_X12_129 ⟨Nat.le_of_ble_eq_true rfl, Nat.le_of_ble_eq_true rfl⟩ hl.1 (Nat.le_of_ble_eq_true rfl) dX12_bitsOf_1 ?_
  refine lv_istore_n (lv' := [(1, .int (F_X12_width σ)), (0, .ref (r 0))]) hx hb dX12_bitsOf_4 rfl hl (by decide) rfl (fun ls hl => ?_)
  exact J_c5 σ (F_X12_width σ) H locs ls hf hP hD hS (lv_sub hl [1, 0] rfl)
theorem k_X12_bitsOf {p : Program} {l : Launch} {e : Env} {R : Room} {s : State} {m : MethodId} {args : Array Value} {below : List Frame} {meth : Method} {c : Code} {H : Heap} {locs : List Loc} {Q : State → Prop} {cc : ByteArray} {pc : Nat} {ls : Array Slot} {rest : List Value} {own : String} {index nL : Nat} {A : Nat → Prop} {z : Cx} {r : Nat → Nat} {σ : MS} {res : MS} (hres : F_X12_bitsOf σ = some res) (S : CallFix p m c cc nL s args tbG own) (hK : va_K z.1 vwCl (cxT z) s) (hA : ∀ q, s.heap.size ≤ q → A q) (hP : va_P z.1 vwCl (mW z r σ) H) (hD : va_D A (mW z r σ)) (hS : va_S A s.heap H locs) (hl : Cond.methodLink own index yX12_bitsOf ∈ tbG) (hR : 3 + 1 ≤ R.frames ∧ 8 + (17 + 11) + 72 ≤ R.locals) (hsz : ls.size = nL) (hcat : (rest.map fun v => v.category).sum ≤ 8) (hdg : decode cc pc = .ok (.invokevirtual index, 3)) (kk : ∀ (H : Heap) (locs : List Loc), va_P z.1 vwCl (mW z r res) H → va_D A (mW z r res) → va_S A s.heap H locs → W p l e R s m args below meth c H locs 0 0 Q (F0 m (pc + 3) ls (rest))) : W p l e R s m args below meth c H locs 0 0 Q (F0 m pc ls (.ref (r 0) :: rest)) :=
  km (As := []) (ov := none) (w' := mW z r res) (q0 := 0) (ci := 11) S hK hA hP hD hS (c_X12_bitsOf l z r σ H.size _ hres) ⟨tb_cB 0 S.2.2.2.2 tc_X12_bitsOf ti_X12 hl rfl rfl (by decide +kernel) hR, S.2.2.2.2 _ tm_X12_bitsOf, S.2.2.2.2 _ te_X12_bitsOf⟩ rfl rfl rfl rfl hsz rfl hcat hdg kk

theorem dX12_twice_0 : decode cX12_twice 0 = .ok (.aload_n 0, 1) := by decide +kernel
theorem dX12_twice_1 : decode cX12_twice 1 = .ok (.invokevirtual 129, 3) := by decide +kernel
theorem dX12_twice_4 : decode cX12_twice 4 = .ok (.istore_n 1, 1) := by decide +kernel
theorem dX12_twice_5 : decode cX12_twice 5 = .ok (.aload_n 0, 1) := by decide +kernel
theorem dX12_twice_6 : decode cX12_twice 6 = .ok (.bipush 15, 2) := by decide +kernel
theorem dX12_twice_8 : decode cX12_twice 8 = .ok (.bipush 10, 2) := by decide +kernel
theorem dX12_twice_10 : decode cX12_twice 10 = .ok (.invokevirtual 121, 3) := by decide +kernel
theorem dX12_twice_13 : decode cX12_twice 13 = .ok (.istore_n 2, 1) := by decide +kernel
theorem dX12_twice_14 : decode cX12_twice 14 = .ok (.aload_n 0, 1) := by decide +kernel
theorem dX12_twice_15 : decode cX12_twice 15 = .ok (.bipush 22, 2) := by decide +kernel
theorem dX12_twice_17 : decode cX12_twice 17 = .ok (.invokevirtual 118, 3) := by decide +kernel
theorem dX12_twice_20 : decode cX12_twice 20 = .ok (.aload_n 0, 1) := by decide +kernel
theorem dX12_twice_21 : decode cX12_twice 21 = .ok (.bipush 31, 2) := by decide +kernel
theorem dX12_twice_23 : decode cX12_twice 23 = .ok (.invokevirtual 118, 3) := by decide +kernel
theorem dX12_twice_26 : decode cX12_twice 26 = .ok (.if_icmp .ne 8, 3) := by decide +kernel
theorem dX12_twice_29 : decode cX12_twice 29 = .ok (.iload_n 2, 1) := by decide +kernel
theorem dX12_twice_30 : decode cX12_twice 30 = .ok (.iload_n 1, 1) := by decide +kernel
theorem dX12_twice_31 : decode cX12_twice 31 = .ok (.if_icmp .lt 8, 3) := by decide +kernel
theorem dX12_twice_34 : decode cX12_twice 34 = .ok (.aload_n 0, 1) := by decide +kernel
theorem dX12_twice_35 : decode cX12_twice 35 = .ok (.invokevirtual 158, 3) := by decide +kernel
theorem dX12_twice_38 : decode cX12_twice 38 = .ok (.return_, 1) := by decide +kernel
theorem dX12_twice_39 : decode cX12_twice 39 = .ok (.aload_n 0, 1) := by decide +kernel
theorem dX12_twice_40 : decode cX12_twice 40 = .ok (.aload_n 0, 1) := by decide +kernel
theorem dX12_twice_41 : decode cX12_twice 41 = .ok (.bipush 9, 2) := by decide +kernel
theorem dX12_twice_43 : decode cX12_twice 43 = .ok (.iconst 5, 1) := by decide +kernel
theorem dX12_twice_44 : decode cX12_twice 44 = .ok (.invokevirtual 121, 3) := by decide +kernel
theorem dX12_twice_47 : decode cX12_twice 47 = .ok (.invokevirtual 161, 3) := by decide +kernel
theorem dX12_twice_50 : decode cX12_twice 50 = .ok (.iload_n 1, 1) := by decide +kernel
theorem dX12_twice_51 : decode cX12_twice 51 = .ok (.invokestatic 138, 3) := by decide +kernel
theorem dX12_twice_54 : decode cX12_twice 54 = .ok (.lstore_n 3, 1) := by decide +kernel
theorem dX12_twice_55 : decode cX12_twice 55 = .ok (.aload_n 0, 1) := by decide +kernel
theorem dX12_twice_56 : decode cX12_twice 56 = .ok (.aload_n 0, 1) := by decide +kernel
theorem dX12_twice_57 : decode cX12_twice 57 = .ok (.bipush 20, 2) := by decide +kernel
theorem dX12_twice_59 : decode cX12_twice 59 = .ok (.bipush 16, 2) := by decide +kernel
theorem dX12_twice_61 : decode cX12_twice 61 = .ok (.invokevirtual 121, 3) := by decide +kernel
theorem dX12_twice_64 : decode cX12_twice 64 = .ok (.invokevirtual 161, 3) := by decide +kernel
theorem dX12_twice_67 : decode cX12_twice 67 = .ok (.iload_n 1, 1) := by decide +kernel
theorem dX12_twice_68 : decode cX12_twice 68 = .ok (.invokestatic 138, 3) := by decide +kernel
theorem dX12_twice_71 : decode cX12_twice 71 = .ok (.lstore 5, 2) := by decide +kernel
theorem dX12_twice_73 : decode cX12_twice 73 = .ok (.lconst 0, 1) := by decide +kernel
theorem dX12_twice_74 : decode cX12_twice 74 = .ok (.lstore 7, 2) := by decide +kernel
theorem dX12_twice_76 : decode cX12_twice 76 = .ok (.iconst 0, 1) := by decide +kernel
theorem dX12_twice_77 : decode cX12_twice 77 = .ok (.istore 9, 2) := by decide +kernel
theorem dX12_twice_79 : decode cX12_twice 79 = .ok (.iload 9, 2) := by decide +kernel
theorem dX12_twice_81 : decode cX12_twice 81 = .ok (.iload_n 1, 1) := by decide +kernel
theorem dX12_twice_82 : decode cX12_twice 82 = .ok (.if_icmp .ge 55, 3) := by decide +kernel
theorem dX12_twice_85 : decode cX12_twice 85 = .ok (.iload 9, 2) := by decide +kernel
theorem dX12_twice_87 : decode cX12_twice 87 = .ok (.iload_n 2, 1) := by decide +kernel
theorem dX12_twice_88 : decode cX12_twice 88 = .ok (.iadd, 1) := by decide +kernel
theorem dX12_twice_89 : decode cX12_twice 89 = .ok (.istore 10, 2) := by decide +kernel
theorem dX12_twice_91 : decode cX12_twice 91 = .ok (.iload 10, 2) := by decide +kernel
theorem dX12_twice_93 : decode cX12_twice 93 = .ok (.iload_n 1, 1) := by decide +kernel
theorem dX12_twice_94 : decode cX12_twice 94 = .ok (.if_icmp .ge 21, 3) := by decide +kernel
theorem dX12_twice_97 : decode cX12_twice 97 = .ok (.lload 7, 2) := by decide +kernel
theorem dX12_twice_99 : decode cX12_twice 99 = .ok (.lload 5, 2) := by decide +kernel
theorem dX12_twice_101 : decode cX12_twice 101 = .ok (.iload 10, 2) := by decide +kernel
theorem dX12_twice_103 : decode cX12_twice 103 = .ok (.lshr, 1) := by decide +kernel
theorem dX12_twice_104 : decode cX12_twice 104 = .ok (.lconst 1, 1) := by decide +kernel
theorem dX12_twice_105 : decode cX12_twice 105 = .ok (.land, 1) := by decide +kernel
theorem dX12_twice_106 : decode cX12_twice 106 = .ok (.iload 9, 2) := by decide +kernel
theorem dX12_twice_108 : decode cX12_twice 108 = .ok (.lshl, 1) := by decide +kernel
theorem dX12_twice_109 : decode cX12_twice 109 = .ok (.lor, 1) := by decide +kernel
theorem dX12_twice_110 : decode cX12_twice 110 = .ok (.lstore 7, 2) := by decide +kernel
theorem dX12_twice_112 : decode cX12_twice 112 = .ok (.goto 19, 3) := by decide +kernel
theorem dX12_twice_115 : decode cX12_twice 115 = .ok (.lload 7, 2) := by decide +kernel
theorem dX12_twice_117 : decode cX12_twice 117 = .ok (.lload_n 3, 1) := by decide +kernel
theorem dX12_twice_118 : decode cX12_twice 118 = .ok (.iload 10, 2) := by decide +kernel
theorem dX12_twice_120 : decode cX12_twice 120 = .ok (.iload_n 1, 1) := by decide +kernel
theorem dX12_twice_121 : decode cX12_twice 121 = .ok (.isub, 1) := by decide +kernel
theorem dX12_twice_122 : decode cX12_twice 122 = .ok (.lshr, 1) := by decide +kernel
theorem dX12_twice_123 : decode cX12_twice 123 = .ok (.lconst 1, 1) := by decide +kernel
theorem dX12_twice_124 : decode cX12_twice 124 = .ok (.land, 1) := by decide +kernel
theorem dX12_twice_125 : decode cX12_twice 125 = .ok (.iload 9, 2) := by decide +kernel
theorem dX12_twice_127 : decode cX12_twice 127 = .ok (.lshl, 1) := by decide +kernel
theorem dX12_twice_128 : decode cX12_twice 128 = .ok (.lor, 1) := by decide +kernel
theorem dX12_twice_129 : decode cX12_twice 129 = .ok (.lstore 7, 2) := by decide +kernel
theorem dX12_twice_131 : decode cX12_twice 131 = .ok (.iinc 9 1, 3) := by decide +kernel
theorem dX12_twice_134 : decode cX12_twice 134 = .ok (.goto (-55), 3) := by decide +kernel
theorem dX12_twice_137 : decode cX12_twice 137 = .ok (.aload_n 0, 1) := by decide +kernel
theorem dX12_twice_138 : decode cX12_twice 138 = .ok (.aload_n 0, 1) := by decide +kernel
theorem dX12_twice_139 : decode cX12_twice 139 = .ok (.iconst 4, 1) := by decide +kernel
theorem dX12_twice_140 : decode cX12_twice 140 = .ok (.iconst 0, 1) := by decide +kernel
theorem dX12_twice_141 : decode cX12_twice 141 = .ok (.invokevirtual 121, 3) := by decide +kernel
theorem dX12_twice_144 : decode cX12_twice 144 = .ok (.lload 7, 2) := by decide +kernel
theorem dX12_twice_146 : decode cX12_twice 146 = .ok (.invokevirtual 151, 3) := by decide +kernel
theorem dX12_twice_149 : decode cX12_twice 149 = .ok (.return_, 1) := by decide +kernel
def F_X12_twice_c34 (τ : MS) : Option (MS) := some ((F_X12_none τ))
def F_X12_twice_c131 (k : MS → Int32 → Int32 → Int64 → Int64 → Int64 → Int32 → Option (MS)) (τ : MS) (w1 : Int32) (w2 : Int32) (w3 : Int64) (w5 : Int64) (w7 : Int64) (w9 : Int32) : Option (MS) := (k τ w1 w2 w3 w5 w7 (w9 + (1)))
def F_X12_twice_c112 (k : MS → Int32 → Int32 → Int64 → Int64 → Int64 → Int32 → Option (MS)) (τ : MS) (w1 : Int32) (w2 : Int32) (w3 : Int64) (w5 : Int64) (w7 : Int64) (w9 : Int32) : Option (MS) := (F_X12_twice_c131 k τ w1 w2 w3 w5 w7 w9)
def F_X12_twice_c79 : Nat → MS → Int32 → Int32 → Int64 → Int64 → Int64 → Int32 → Option (MS)
  | 0, _, _, _, _, _, _, _ => none
  | n + 1, τ, w1, w2, w3, w5, w7, w9 => (if w1 ≤ w9 then ((F_X12_f τ (4 : Int32) (0 : Int32)).bind fun v6 => ((F_X12_put τ v6 w7).bind fun v7 => some (v7))) else (if w1 ≤ (w9 + w2) then (F_X12_twice_c131 (F_X12_twice_c79 n) τ w1 w2 w3 w5 (w7 ||| (j_lshl ((j_lshr w3 ((w9 + w2) - w1)) &&& (1 : Int64)) w9)) w9) else (F_X12_twice_c112 (F_X12_twice_c79 n) τ w1 w2 w3 w5 (w7 ||| (j_lshl ((j_lshr w5 (w9 + w2)) &&& (1 : Int64)) w9)) w9)))
def F_X12_twice_c5 (τ : MS) (w1 : Int32) : Option (MS) := ((F_X12_f τ (15 : Int32) (10 : Int32)).bind fun v1 => (if (F_X12_on τ (22 : Int32)) = (F_X12_on τ (31 : Int32)) then (if v1 < w1 then ((F_X12_f τ (9 : Int32) (5 : Int32)).bind fun v2 => ((F_X12_reg τ v2).bind fun v3 => ((F_X12_f τ (20 : Int32) (16 : Int32)).bind fun v4 => ((F_X12_reg τ v4).bind fun v5 => (F_X12_twice_c79 70 τ w1 v1 (F_X12_cut v3 w1) (F_X12_cut v5 w1) (0 : Int64) (0 : Int32)))))) else (F_X12_twice_c34 τ)) else (F_X12_twice_c34 τ)))
def F_X12_twice (σ : MS)  : Option (MS) := (F_X12_twice_c5 σ (F_X12_width σ))
set_option maxHeartbeats 4000000 in
set_option maxRecDepth 100000 in
theorem c_X12_twice (l : Launch) (z : Cx) (r : Nat → Nat) (σ : MS) (sz : Nat) (res : MS) (hf : F_X12_twice σ = some res) : Met l yX12_twice (wsC yX12_twice cX12_twice 11 none) { frames := 3, cells := 0, slots := 0, locals := 72 } (mPc z (mW z r σ) sz [.ref (r 0)]) (gM z (va_A (mW z r σ) sz) none (mW z r res)) 0 0 (va_A (mW z r σ) sz) := by
  refine mk_m_v (own := RX12) (wf := mW z r) (by decide) rfl sz _ (Nat.le_of_ble_eq_true rfl) (fun p e s m below meth c A H locs Q ls S hK hA hP hD hS hl hend => ?_)
  have hx := S.1
  have hb := S.2.1
  have hown := S.2.2.2.1
  have hts := S.2.2.2.2
  have hl : lv_has ls 11 [(0, .ref (r 0))] := hl
  have J_c34 : ∀ (τ : MS) (H : Heap) (locs : List Loc) (ls : Array Slot), F_X12_twice_c34 τ = some res → va_P z.1 vwCl (mW z r τ) H → va_D A (mW z r τ) → va_S A s.heap H locs → lv_has ls 11 [(0, .ref (r 0))] → W p l e { frames := 3, cells := 0, slots := 0, locals := 72 } s m ([.ref (r 0)] : List Value).toArray below meth c H locs 0 0 Q (F0 m 34 ls []) := by
    intro τ H locs ls hf hP hD hS hl
    unfold F_X12_twice_c34 at hf
    refine lv_aload_n hx hb dX12_twice_34 rfl (lv_at hl 0 rfl) ?_
    refine k_X12_none S hK hA hP hD hS tl_X12_158 ⟨Nat.le_of_ble_eq_true rfl, Nat.le_of_ble_eq_true rfl⟩ hl.1 (Nat.le_of_ble_eq_true rfl) dX12_twice_35 (fun H locs hP hD hS => ?_)
    exact hend (F_X12_none τ) H locs 38 ls (Option.some.inj hf) hP hD hS dX12_twice_38
  have J_c79 : ∀ (n : Nat) (τ : MS) (w1 : Int32) (w2 : Int32) (w3 : Int64) (w5 : Int64) (w7 : Int64) (w9 : Int32) (H : Heap) (locs : List Loc) (ls : Array Slot), F_X12_twice_c79 n τ w1 w2 w3 w5 w7 w9 = some res → va_P z.1 vwCl (mW z r τ) H → va_D A (mW z r τ) → va_S A s.heap H locs → lv_has ls 11 [(0, .ref (r 0)), (1, .int w1), (2, .int w2), (3, .long w3), (5, .long w5), (7, .long w7), (9, .int w9)] → W p l e { frames := 3, cells := 0, slots := 0, locals := 72 } s m ([.ref (r 0)] : List Value).toArray below meth c H locs 0 0 Q (F0 m 79 ls []) := by
    intro n
    induction n with
    | zero => intro τ w1 w2 w3 w5 w7 w9 H locs ls hf; rw [F_X12_twice_c79] at hf; cases hf
    | succ n ih =>
      have J_c131 : ∀ (τ : MS) (w1 : Int32) (w2 : Int32) (w3 : Int64) (w5 : Int64) (w7 : Int64) (w9 : Int32) (H : Heap) (locs : List Loc) (ls : Array Slot), F_X12_twice_c131 (F_X12_twice_c79 n) τ w1 w2 w3 w5 w7 w9 = some res → va_P z.1 vwCl (mW z r τ) H → va_D A (mW z r τ) → va_S A s.heap H locs → lv_has ls 11 [(0, .ref (r 0)), (1, .int w1), (2, .int w2), (3, .long w3), (5, .long w5), (7, .long w7), (9, .int w9)] → W p l e { frames := 3, cells := 0, slots := 0, locals := 72 } s m ([.ref (r 0)] : List Value).toArray below meth c H locs 0 0 Q (F0 m 131 ls []) := by
        intro τ w1 w2 w3 w5 w7 w9 H locs ls hf hP hD hS hl
        unfold F_X12_twice_c131 at hf
        refine lv_iinc (v := w9 + (1)) (lv' := [(9, .int (w9 + (1))), (0, .ref (r 0)), (1, .int w1), (2, .int w2), (3, .long w3), (5, .long w5), (7, .long w7)]) hx hb dX12_twice_131 hl (k := 6) rfl rfl (by decide) rfl (fun ls hl => ?_)
        refine lv_goto (tgt := 79) hx hb dX12_twice_134 (by decide) ?_
        exact ih τ w1 w2 w3 w5 w7 (w9 + (1)) H locs ls hf hP hD hS (lv_sub hl [1, 2, 3, 4, 5, 6, 0] rfl)
      have J_c112 : ∀ (τ : MS) (w1 : Int32) (w2 : Int32) (w3 : Int64) (w5 : Int64) (w7 : Int64) (w9 : Int32) (H : Heap) (locs : List Loc) (ls : Array Slot), F_X12_twice_c112 (F_X12_twice_c79 n) τ w1 w2 w3 w5 w7 w9 = some res → va_P z.1 vwCl (mW z r τ) H → va_D A (mW z r τ) → va_S A s.heap H locs → lv_has ls 11 [(0, .ref (r 0)), (1, .int w1), (2, .int w2), (3, .long w3), (5, .long w5), (7, .long w7), (9, .int w9)] → W p l e { frames := 3, cells := 0, slots := 0, locals := 72 } s m ([.ref (r 0)] : List Value).toArray below meth c H locs 0 0 Q (F0 m 112 ls []) := by
        intro τ w1 w2 w3 w5 w7 w9 H locs ls hf hP hD hS hl
        unfold F_X12_twice_c112 at hf
        refine lv_goto (tgt := 131) hx hb dX12_twice_112 (by decide) ?_
        exact J_c131 τ w1 w2 w3 w5 w7 w9 H locs ls hf hP hD hS (lv_sub hl [0, 1, 2, 3, 4, 5, 6] rfl)
      intro τ w1 w2 w3 w5 w7 w9 H locs ls hf hP hD hS hl
      rw [F_X12_twice_c79] at hf
      refine lv_iload hx hb dX12_twice_79 (lv_at hl 6 rfl) ?_
      refine lv_iload_n hx hb dX12_twice_81 rfl (lv_at hl 1 rfl) ?_
      refine lv_icmp_ge (tgt := 137) hx hb dX12_twice_82 (by decide) (fun c_82 => ?_) (fun c_82 => ?_)
      · rw [if_pos c_82] at hf
        refine lv_aload_n hx hb dX12_twice_137 rfl (lv_at hl 0 rfl) ?_
        refine lv_aload_n hx hb dX12_twice_138 rfl (lv_at hl 0 rfl) ?_
        refine lv_iconst (v := 4) hx hb dX12_twice_139 (by decide) ?_
        refine lv_iconst (v := 0) hx hb dX12_twice_140 (by decide) ?_
        obtain ⟨v6, e_v6, hf⟩ := Option.bind_eq_some_iff.mp hf
        refine k_X12_f (a0 := (4 : Int32)) (a1 := (0 : Int32)) (res := v6) (hres := e_v6) S hK hP tl_X12_121 ⟨Nat.le_of_ble_eq_true rfl, Nat.le_of_ble_eq_true rfl⟩ hl.1 (Nat.le_of_ble_eq_true rfl) dX12_twice_141 ?_
        refine lv_lload hx hb dX12_twice_144 (lv_at hl 5 rfl) ?_
        obtain ⟨v7, e_v7, hf⟩ := Option.bind_eq_some_iff.mp hf
        refine k_X12_put (a0 := v6) (a1 := w7) (res := v7) (hres := e_v7) S hK hA hP hD hS tl_X12_151 ⟨Nat.le_of_ble_eq_true rfl, Nat.le_of_ble_eq_true rfl⟩ hl.1 (Nat.le_of_ble_eq_true rfl) dX12_twice_146 (fun H locs hP hD hS => ?_)
        exact hend v7 H locs 149 ls (Option.some.inj hf) hP hD hS dX12_twice_149
      · rw [if_neg c_82] at hf
        refine lv_iload hx hb dX12_twice_85 (lv_at hl 6 rfl) ?_
        refine lv_iload_n hx hb dX12_twice_87 rfl (lv_at hl 2 rfl) ?_
        refine lv_iadd hx hb dX12_twice_88 ?_
        refine lv_istore (lv' := [(10, .int (w9 + w2)), (0, .ref (r 0)), (1, .int w1), (2, .int w2), (3, .long w3), (5, .long w5), (7, .long w7), (9, .int w9)]) hx hb dX12_twice_89 hl (by decide) rfl (fun ls hl => ?_)
        refine lv_iload hx hb dX12_twice_91 (lv_at hl 0 rfl) ?_
        refine lv_iload_n hx hb dX12_twice_93 rfl (lv_at hl 2 rfl) ?_
        refine lv_icmp_ge (tgt := 115) hx hb dX12_twice_94 (by decide) (fun c_94 => ?_) (fun c_94 => ?_)
        · rw [if_pos c_94] at hf
          refine lv_lload hx hb dX12_twice_115 (lv_at hl 6 rfl) ?_
          refine lv_lload_n hx hb dX12_twice_117 rfl (lv_at hl 4 rfl) ?_
          refine lv_iload hx hb dX12_twice_118 (lv_at hl 0 rfl) ?_
          refine lv_iload_n hx hb dX12_twice_120 rfl (lv_at hl 2 rfl) ?_
          refine lv_isub hx hb dX12_twice_121 ?_
          refine lv_lshr (v := (j_lshr w3 ((w9 + w2) - w1))) hx hb dX12_twice_122 rfl ?_
          refine lv_lconst (v := 1) hx hb dX12_twice_123 (by decide) ?_
          refine lv_land hx hb dX12_twice_124 ?_
          refine lv_iload hx hb dX12_twice_125 (lv_at hl 7 rfl) ?_
          refine lv_lshl (v := (j_lshl ((j_lshr w3 ((w9 + w2) - w1)) &&& (1 : Int64)) w9)) hx hb dX12_twice_127 rfl ?_
          refine lv_lor hx hb dX12_twice_128 ?_
          refine lv_lstore (lv' := [(7, .long (w7 ||| (j_lshl ((j_lshr w3 ((w9 + w2) - w1)) &&& (1 : Int64)) w9))), (10, .int (w9 + w2)), (0, .ref (r 0)), (1, .int w1), (2, .int w2), (3, .long w3), (5, .long w5), (9, .int w9)]) hx hb dX12_twice_129 hl (by decide) rfl (fun ls hl => ?_)
          exact J_c131 τ w1 w2 w3 w5 (w7 ||| (j_lshl ((j_lshr w3 ((w9 + w2) - w1)) &&& (1 : Int64)) w9)) w9 H locs ls hf hP hD hS (lv_sub hl [2, 3, 4, 5, 6, 0, 7] rfl)
        · rw [if_neg c_94] at hf
          refine lv_lload hx hb dX12_twice_97 (lv_at hl 6 rfl) ?_
          refine lv_lload hx hb dX12_twice_99 (lv_at hl 5 rfl) ?_
          refine lv_iload hx hb dX12_twice_101 (lv_at hl 0 rfl) ?_
          refine lv_lshr (v := (j_lshr w5 (w9 + w2))) hx hb dX12_twice_103 rfl ?_
          refine lv_lconst (v := 1) hx hb dX12_twice_104 (by decide) ?_
          refine lv_land hx hb dX12_twice_105 ?_
          refine lv_iload hx hb dX12_twice_106 (lv_at hl 7 rfl) ?_
          refine lv_lshl (v := (j_lshl ((j_lshr w5 (w9 + w2)) &&& (1 : Int64)) w9)) hx hb dX12_twice_108 rfl ?_
          refine lv_lor hx hb dX12_twice_109 ?_
          refine lv_lstore (lv' := [(7, .long (w7 ||| (j_lshl ((j_lshr w5 (w9 + w2)) &&& (1 : Int64)) w9))), (10, .int (w9 + w2)), (0, .ref (r 0)), (1, .int w1), (2, .int w2), (3, .long w3), (5, .long w5), (9, .int w9)]) hx hb dX12_twice_110 hl (by decide) rfl (fun ls hl => ?_)
          exact J_c112 τ w1 w2 w3 w5 (w7 ||| (j_lshl ((j_lshr w5 (w9 + w2)) &&& (1 : Int64)) w9)) w9 H locs ls hf hP hD hS (lv_sub hl [2, 3, 4, 5, 6, 0, 7] rfl)
  have J_c5 : ∀ (τ : MS) (w1 : Int32) (H : Heap) (locs : List Loc) (ls : Array Slot), F_X12_twice_c5 τ w1 = some res → va_P z.1 vwCl (mW z r τ) H → va_D A (mW z r τ) → va_S A s.heap H locs → lv_has ls 11 [(0, .ref (r 0)), (1, .int w1)] → W p l e { frames := 3, cells := 0, slots := 0, locals := 72 } s m ([.ref (r 0)] : List Value).toArray below meth c H locs 0 0 Q (F0 m 5 ls []) := by
    intro τ w1 H locs ls hf hP hD hS hl
    unfold F_X12_twice_c5 at hf
    refine lv_aload_n hx hb dX12_twice_5 rfl (lv_at hl 0 rfl) ?_
    refine lv_bipush (v := 15) hx hb dX12_twice_6 (by decide) ?_
    refine lv_bipush (v := 10) hx hb dX12_twice_8 (by decide) ?_
    obtain ⟨v1, e_v1, hf⟩ := Option.bind_eq_some_iff.mp hf
    refine k_X12_f (a0 := (15 : Int32)) (a1 := (10 : Int32)) (res := v1) (hres := e_v1) S hK hP tl_X12_121 ⟨Nat.le_of_ble_eq_true rfl, Nat.le_of_ble_eq_true rfl⟩ hl.1 (Nat.le_of_ble_eq_true rfl) dX12_twice_10 ?_
    refine lv_istore_n (lv' := [(2, .int v1), (0, .ref (r 0)), (1, .int w1)]) hx hb dX12_twice_13 rfl hl (by decide) rfl (fun ls hl => ?_)
    refine lv_aload_n hx hb dX12_twice_14 rfl (lv_at hl 1 rfl) ?_
    refine lv_bipush (v := 22) hx hb dX12_twice_15 (by decide) ?_
    refine k_X12_on (a0 := (22 : Int32)) S hK hP tl_X12_118 ⟨Nat.le_of_ble_eq_true rfl, Nat.le_of_ble_eq_true rfl⟩ hl.1 (Nat.le_of_ble_eq_true rfl) dX12_twice_17 ?_
    refine lv_aload_n hx hb dX12_twice_20 rfl (lv_at hl 1 rfl) ?_
    refine lv_bipush (v := 31) hx hb dX12_twice_21 (by decide) ?_
    refine k_X12_on (a0 := (31 : Int32)) S hK hP tl_X12_118 ⟨Nat.le_of_ble_eq_true rfl, Nat.le_of_ble_eq_true rfl⟩ hl.1 (Nat.le_of_ble_eq_true rfl) dX12_twice_23 ?_
    refine gz_cne (tgt := 34) hx hb dX12_twice_26 (by decide) (fun c_26 => ?_) (fun c_26 => ?_)
    · rw [if_neg c_26] at hf
      exact J_c34 τ H locs ls hf hP hD hS (lv_sub hl [1] rfl)
    · rw [if_pos c_26] at hf
      refine lv_iload_n hx hb dX12_twice_29 rfl (lv_at hl 0 rfl) ?_
      refine lv_iload_n hx hb dX12_twice_30 rfl (lv_at hl 2 rfl) ?_
      refine lv_icmp_lt (tgt := 39) hx hb dX12_twice_31 (by decide) (fun c_31 => ?_) (fun c_31 => ?_)
      · rw [if_pos c_31] at hf
        refine lv_aload_n hx hb dX12_twice_39 rfl (lv_at hl 1 rfl) ?_
        refine lv_aload_n hx hb dX12_twice_40 rfl (lv_at hl 1 rfl) ?_
        refine lv_bipush (v := 9) hx hb dX12_twice_41 (by decide) ?_
        refine lv_iconst (v := 5) hx hb dX12_twice_43 (by decide) ?_
        obtain ⟨v2, e_v2, hf⟩ := Option.bind_eq_some_iff.mp hf
        refine k_X12_f (a0 := (9 : Int32)) (a1 := (5 : Int32)) (res := v2) (hres := e_v2) S hK hP tl_X12_121 ⟨Nat.le_of_ble_eq_true rfl, Nat.le_of_ble_eq_true rfl⟩ hl.1 (Nat.le_of_ble_eq_true rfl) dX12_twice_44 ?_
        obtain ⟨v3, e_v3, hf⟩ := Option.bind_eq_some_iff.mp hf
        refine k_X12_reg (a0 := v2) (res := v3) (hres := e_v3) S hK hP tl_X12_161 ⟨Nat.le_of_ble_eq_true rfl, Nat.le_of_ble_eq_true rfl⟩ hl.1 (Nat.le_of_ble_eq_true rfl) dX12_twice_47 ?_
        refine lv_iload_n hx hb dX12_twice_50 rfl (lv_at hl 2 rfl) ?_
        refine k_X12_cut (a0 := v3) (a1 := w1) S tl_X12_138 ⟨Nat.le_of_ble_eq_true rfl, Nat.le_of_ble_eq_true rfl⟩ hl.1 (Nat.le_of_ble_eq_true rfl) dX12_twice_51 ?_
        refine lv_lstore_n (lv' := [(3, .long (F_X12_cut v3 w1)), (2, .int v1), (0, .ref (r 0)), (1, .int w1)]) hx hb dX12_twice_54 rfl hl (by decide) rfl (fun ls hl => ?_)
        refine lv_aload_n hx hb dX12_twice_55 rfl (lv_at hl 2 rfl) ?_
        refine lv_aload_n hx hb dX12_twice_56 rfl (lv_at hl 2 rfl) ?_
        refine lv_bipush (v := 20) hx hb dX12_twice_57 (by decide) ?_
        refine lv_bipush (v := 16) hx hb dX12_twice_59 (by decide) ?_
        obtain ⟨v4, e_v4, hf⟩ := Option.bind_eq_some_iff.mp hf
        refine k_X12_f (a0 := (20 : Int32)) (a1 := (16 : Int32)) (res := v4) (hres := e_v4) S hK hP tl_X12_121 ⟨Nat.le_of_ble_eq_true rfl, Nat.le_of_ble_eq_true rfl⟩ hl.1 (Nat.le_of_ble_eq_true rfl) dX12_twice_61 ?_
        obtain ⟨v5, e_v5, hf⟩ := Option.bind_eq_some_iff.mp hf
        refine k_X12_reg (a0 := v4) (res := v5) (hres := e_v5) S hK hP tl_X12_161 ⟨Nat.le_of_ble_eq_true rfl, Nat.le_of_ble_eq_true rfl⟩ hl.1 (Nat.le_of_ble_eq_true rfl) dX12_twice_64 ?_
        refine lv_iload_n hx hb dX12_twice_67 rfl (lv_at hl 3 rfl) ?_
        refine k_X12_cut (a0 := v5) (a1 := w1) S tl_X12_138 ⟨Nat.le_of_ble_eq_true rfl, Nat.le_of_ble_eq_true rfl⟩ hl.1 (Nat.le_of_ble_eq_true rfl) dX12_twice_68 ?_
        refine lv_lstore (lv' := [(5, .long (F_X12_cut v5 w1)), (3, .long (F_X12_cut v3 w1)), (2, .int v1), (0, .ref (r 0)), (1, .int w1)]) hx hb dX12_twice_71 hl (by decide) rfl (fun ls hl => ?_)
        refine lv_lconst (v := 0) hx hb dX12_twice_73 (by decide) ?_
        refine lv_lstore (lv' := [(7, .long (0 : Int64)), (5, .long (F_X12_cut v5 w1)), (3, .long (F_X12_cut v3 w1)), (2, .int v1), (0, .ref (r 0)), (1, .int w1)]) hx hb dX12_twice_74 hl (by decide) rfl (fun ls hl => ?_)
        refine lv_iconst (v := 0) hx hb dX12_twice_76 (by decide) ?_
        refine lv_istore (lv' := [(9, .int (0 : Int32)), (7, .long (0 : Int64)), (5, .long (F_X12_cut v5 w1)), (3, .long (F_X12_cut v3 w1)), (2, .int v1), (0, .ref (r 0)), (1, .int w1)]) hx hb dX12_twice_77 hl (by decide) rfl (fun ls hl => ?_)
        exact J_c79 70 τ w1 v1 (F_X12_cut v3 w1) (F_X12_cut v5 w1) (0 : Int64) (0 : Int32) H locs ls hf hP hD hS (lv_sub hl [5, 6, 4, 3, 2, 1, 0] rfl)
      · rw [if_neg c_31] at hf
        exact J_c34 τ H locs ls hf hP hD hS (lv_sub hl [1] rfl)
  unfold F_X12_twice at hf
  refine lv_aload_n hx hb dX12_twice_0 rfl (lv_at hl 0 rfl) ?_
  refine k_X12_width S hK hP tl_X12_129 ⟨Nat.le_of_ble_eq_true rfl, Nat.le_of_ble_eq_true rfl⟩ hl.1 (Nat.le_of_ble_eq_true rfl) dX12_twice_1 ?_
  refine lv_istore_n (lv' := [(1, .int (F_X12_width σ)), (0, .ref (r 0))]) hx hb dX12_twice_4 rfl hl (by decide) rfl (fun ls hl => ?_)
  exact J_c5 σ (F_X12_width σ) H locs ls hf hP hD hS (lv_sub hl [1, 0] rfl)
theorem k_X12_twice {p : Program} {l : Launch} {e : Env} {R : Room} {s : State} {m : MethodId} {args : Array Value} {below : List Frame} {meth : Method} {c : Code} {H : Heap} {locs : List Loc} {Q : State → Prop} {cc : ByteArray} {pc : Nat} {ls : Array Slot} {rest : List Value} {own : String} {index nL : Nat} {A : Nat → Prop} {z : Cx} {r : Nat → Nat} {σ : MS} {res : MS} (hres : F_X12_twice σ = some res) (S : CallFix p m c cc nL s args tbG own) (hK : va_K z.1 vwCl (cxT z) s) (hA : ∀ q, s.heap.size ≤ q → A q) (hP : va_P z.1 vwCl (mW z r σ) H) (hD : va_D A (mW z r σ)) (hS : va_S A s.heap H locs) (hl : Cond.methodLink own index yX12_twice ∈ tbG) (hR : 3 + 1 ≤ R.frames ∧ 8 + (11 + 11) + 72 ≤ R.locals) (hsz : ls.size = nL) (hcat : (rest.map fun v => v.category).sum ≤ 8) (hdg : decode cc pc = .ok (.invokevirtual index, 3)) (kk : ∀ (H : Heap) (locs : List Loc), va_P z.1 vwCl (mW z r res) H → va_D A (mW z r res) → va_S A s.heap H locs → W p l e R s m args below meth c H locs 0 0 Q (F0 m (pc + 3) ls (rest))) : W p l e R s m args below meth c H locs 0 0 Q (F0 m pc ls (.ref (r 0) :: rest)) :=
  km (As := []) (ov := none) (w' := mW z r res) (q0 := 0) (ci := 11) S hK hA hP hD hS (c_X12_twice l z r σ H.size _ hres) ⟨tb_cB 0 S.2.2.2.2 tc_X12_twice ti_X12 hl rfl rfl (by decide +kernel) hR, S.2.2.2.2 _ tm_X12_twice, S.2.2.2.2 _ te_X12_twice⟩ rfl rfl rfl rfl hsz rfl hcat hdg kk

theorem dX12_choose_0 : decode cX12_choose 0 = .ok (.aload_n 0, 1) := by decide +kernel
theorem dX12_choose_1 : decode cX12_choose 1 = .ok (.invokevirtual 129, 3) := by decide +kernel
theorem dX12_choose_4 : decode cX12_choose 4 = .ok (.istore_n 1, 1) := by decide +kernel
theorem dX12_choose_5 : decode cX12_choose 5 = .ok (.aload_n 0, 1) := by decide +kernel
theorem dX12_choose_6 : decode cX12_choose 6 = .ok (.aload_n 0, 1) := by decide +kernel
theorem dX12_choose_7 : decode cX12_choose 7 = .ok (.bipush 9, 2) := by decide +kernel
theorem dX12_choose_9 : decode cX12_choose 9 = .ok (.iconst 5, 1) := by decide +kernel
theorem dX12_choose_10 : decode cX12_choose 10 = .ok (.invokevirtual 121, 3) := by decide +kernel
theorem dX12_choose_13 : decode cX12_choose 13 = .ok (.invokevirtual 161, 3) := by decide +kernel
theorem dX12_choose_16 : decode cX12_choose 16 = .ok (.iload_n 1, 1) := by decide +kernel
theorem dX12_choose_17 : decode cX12_choose 17 = .ok (.invokestatic 138, 3) := by decide +kernel
theorem dX12_choose_20 : decode cX12_choose 20 = .ok (.lstore_n 2, 1) := by decide +kernel
theorem dX12_choose_21 : decode cX12_choose 21 = .ok (.aload_n 0, 1) := by decide +kernel
theorem dX12_choose_22 : decode cX12_choose 22 = .ok (.aload_n 0, 1) := by decide +kernel
theorem dX12_choose_23 : decode cX12_choose 23 = .ok (.bipush 15, 2) := by decide +kernel
theorem dX12_choose_25 : decode cX12_choose 25 = .ok (.bipush 12, 2) := by decide +kernel
theorem dX12_choose_27 : decode cX12_choose 27 = .ok (.invokevirtual 121, 3) := by decide +kernel
theorem dX12_choose_30 : decode cX12_choose 30 = .ok (.invokevirtual 176, 3) := by decide +kernel
theorem dX12_choose_33 : decode cX12_choose 33 = .ok (.ifCond .ne 56, 3) := by decide +kernel
theorem dX12_choose_36 : decode cX12_choose 36 = .ok (.aload_n 0, 1) := by decide +kernel
theorem dX12_choose_37 : decode cX12_choose 37 = .ok (.aload_n 0, 1) := by decide +kernel
theorem dX12_choose_38 : decode cX12_choose 38 = .ok (.bipush 20, 2) := by decide +kernel
theorem dX12_choose_40 : decode cX12_choose 40 = .ok (.bipush 16, 2) := by decide +kernel
theorem dX12_choose_42 : decode cX12_choose 42 = .ok (.invokevirtual 121, 3) := by decide +kernel
theorem dX12_choose_45 : decode cX12_choose 45 = .ok (.invokevirtual 161, 3) := by decide +kernel
theorem dX12_choose_48 : decode cX12_choose 48 = .ok (.iload_n 1, 1) := by decide +kernel
theorem dX12_choose_49 : decode cX12_choose 49 = .ok (.invokestatic 138, 3) := by decide +kernel
theorem dX12_choose_52 : decode cX12_choose 52 = .ok (.lstore_n 2, 1) := by decide +kernel
theorem dX12_choose_53 : decode cX12_choose 53 = .ok (.aload_n 0, 1) := by decide +kernel
theorem dX12_choose_54 : decode cX12_choose 54 = .ok (.bipush 30, 2) := by decide +kernel
theorem dX12_choose_56 : decode cX12_choose 56 = .ok (.invokevirtual 118, 3) := by decide +kernel
theorem dX12_choose_59 : decode cX12_choose 59 = .ok (.ifCond .eq 13, 3) := by decide +kernel
theorem dX12_choose_62 : decode cX12_choose 62 = .ok (.lload_n 2, 1) := by decide +kernel
theorem dX12_choose_63 : decode cX12_choose 63 = .ok (.ldc2_w 141, 3) := by decide +kernel
theorem dX12_choose_66 : decode cX12_choose 66 = .ok (.lxor, 1) := by decide +kernel
theorem dX12_choose_67 : decode cX12_choose 67 = .ok (.iload_n 1, 1) := by decide +kernel
theorem dX12_choose_68 : decode cX12_choose 68 = .ok (.invokestatic 138, 3) := by decide +kernel
theorem dX12_choose_71 : decode cX12_choose 71 = .ok (.lstore_n 2, 1) := by decide +kernel
theorem dX12_choose_72 : decode cX12_choose 72 = .ok (.aload_n 0, 1) := by decide +kernel
theorem dX12_choose_73 : decode cX12_choose 73 = .ok (.bipush 10, 2) := by decide +kernel
theorem dX12_choose_75 : decode cX12_choose 75 = .ok (.invokevirtual 118, 3) := by decide +kernel
theorem dX12_choose_78 : decode cX12_choose 78 = .ok (.ifCond .eq 11, 3) := by decide +kernel
theorem dX12_choose_81 : decode cX12_choose 81 = .ok (.lload_n 2, 1) := by decide +kernel
theorem dX12_choose_82 : decode cX12_choose 82 = .ok (.lconst 1, 1) := by decide +kernel
theorem dX12_choose_83 : decode cX12_choose 83 = .ok (.ladd, 1) := by decide +kernel
theorem dX12_choose_84 : decode cX12_choose 84 = .ok (.iload_n 1, 1) := by decide +kernel
theorem dX12_choose_85 : decode cX12_choose 85 = .ok (.invokestatic 138, 3) := by decide +kernel
theorem dX12_choose_88 : decode cX12_choose 88 = .ok (.lstore_n 2, 1) := by decide +kernel
theorem dX12_choose_89 : decode cX12_choose 89 = .ok (.aload_n 0, 1) := by decide +kernel
theorem dX12_choose_90 : decode cX12_choose 90 = .ok (.aload_n 0, 1) := by decide +kernel
theorem dX12_choose_91 : decode cX12_choose 91 = .ok (.iconst 4, 1) := by decide +kernel
theorem dX12_choose_92 : decode cX12_choose 92 = .ok (.iconst 0, 1) := by decide +kernel
theorem dX12_choose_93 : decode cX12_choose 93 = .ok (.invokevirtual 121, 3) := by decide +kernel
theorem dX12_choose_96 : decode cX12_choose 96 = .ok (.lload_n 2, 1) := by decide +kernel
theorem dX12_choose_97 : decode cX12_choose 97 = .ok (.invokevirtual 151, 3) := by decide +kernel
theorem dX12_choose_100 : decode cX12_choose 100 = .ok (.return_, 1) := by decide +kernel
def F_X12_choose_c89 (τ : MS) (w2 : Int64) : Option (MS) := ((F_X12_f τ (4 : Int32) (0 : Int32)).bind fun v4 => ((F_X12_put τ v4 w2).bind fun v5 => some (v5)))
def F_X12_choose_c72 (τ : MS) (w1 : Int32) (w2 : Int64) : Option (MS) := (if (F_X12_on τ (10 : Int32)) = true then (F_X12_choose_c89 τ (F_X12_cut (w2 + (1 : Int64)) w1)) else (F_X12_choose_c89 τ w2))
def F_X12_choose_c53 (τ : MS) (w1 : Int32) (w2 : Int64) : Option (MS) := (if (F_X12_on τ (30 : Int32)) = true then (F_X12_choose_c72 τ w1 (F_X12_cut (w2 ^^^ (-1 : Int64)) w1)) else (F_X12_choose_c72 τ w1 w2))
def F_X12_choose_c21 (τ : MS) (w1 : Int32) (w2 : Int64) : Option (MS) := ((F_X12_f τ (15 : Int32) (12 : Int32)).bind fun v3 => (if (F_X12_holds τ v3) = true then (F_X12_choose_c89 τ w2) else ((F_X12_f τ (20 : Int32) (16 : Int32)).bind fun v6 => ((F_X12_reg τ v6).bind fun v7 => (F_X12_choose_c53 τ w1 (F_X12_cut v7 w1))))))
def F_X12_choose_c5 (τ : MS) (w1 : Int32) : Option (MS) := ((F_X12_f τ (9 : Int32) (5 : Int32)).bind fun v1 => ((F_X12_reg τ v1).bind fun v2 => (F_X12_choose_c21 τ w1 (F_X12_cut v2 w1))))
def F_X12_choose (σ : MS)  : Option (MS) := (F_X12_choose_c5 σ (F_X12_width σ))
set_option maxHeartbeats 4000000 in
set_option maxRecDepth 100000 in
theorem c_X12_choose (l : Launch) (z : Cx) (r : Nat → Nat) (σ : MS) (sz : Nat) (res : MS) (hf : F_X12_choose σ = some res) : Met l yX12_choose (wsC yX12_choose cX12_choose 4 none) { frames := 2, cells := 0, slots := 0, locals := 41 } (mPc z (mW z r σ) sz [.ref (r 0)]) (gM z (va_A (mW z r σ) sz) none (mW z r res)) 0 0 (va_A (mW z r σ) sz) := by
  refine mk_m_v (own := RX12) (wf := mW z r) (by decide) rfl sz _ (Nat.le_of_ble_eq_true rfl) (fun p e s m below meth c A H locs Q ls S hK hA hP hD hS hl hend => ?_)
  have hx := S.1
  have hb := S.2.1
  have hown := S.2.2.2.1
  have hts := S.2.2.2.2
  have hl : lv_has ls 4 [(0, .ref (r 0))] := hl
  have J_c89 : ∀ (τ : MS) (w2 : Int64) (H : Heap) (locs : List Loc) (ls : Array Slot), F_X12_choose_c89 τ w2 = some res → va_P z.1 vwCl (mW z r τ) H → va_D A (mW z r τ) → va_S A s.heap H locs → lv_has ls 4 [(0, .ref (r 0)), (2, .long w2)] → W p l e { frames := 2, cells := 0, slots := 0, locals := 41 } s m ([.ref (r 0)] : List Value).toArray below meth c H locs 0 0 Q (F0 m 89 ls []) := by
    intro τ w2 H locs ls hf hP hD hS hl
    unfold F_X12_choose_c89 at hf
    refine lv_aload_n hx hb dX12_choose_89 rfl (lv_at hl 0 rfl) ?_
    refine lv_aload_n hx hb dX12_choose_90 rfl (lv_at hl 0 rfl) ?_
    refine lv_iconst (v := 4) hx hb dX12_choose_91 (by decide) ?_
    refine lv_iconst (v := 0) hx hb dX12_choose_92 (by decide) ?_
    obtain ⟨v4, e_v4, hf⟩ := Option.bind_eq_some_iff.mp hf
    refine k_X12_f (a0 := (4 : Int32)) (a1 := (0 : Int32)) (res := v4) (hres := e_v4) S hK hP tl_X12_121 ⟨Nat.le_of_ble_eq_true rfl, Nat.le_of_ble_eq_true rfl⟩ hl.1 (Nat.le_of_ble_eq_true rfl) dX12_choose_93 ?_
    refine lv_lload_n hx hb dX12_choose_96 rfl (lv_at hl 1 rfl) ?_
    obtain ⟨v5, e_v5, hf⟩ := Option.bind_eq_some_iff.mp hf
    refine k_X12_put (a0 := v4) (a1 := w2) (res := v5) (hres := e_v5) S hK hA hP hD hS tl_X12_151 ⟨Nat.le_of_ble_eq_true rfl, Nat.le_of_ble_eq_true rfl⟩ hl.1 (Nat.le_of_ble_eq_true rfl) dX12_choose_97 (fun H locs hP hD hS => ?_)
    exact hend v5 H locs 100 ls (Option.some.inj hf) hP hD hS dX12_choose_100
  have J_c72 : ∀ (τ : MS) (w1 : Int32) (w2 : Int64) (H : Heap) (locs : List Loc) (ls : Array Slot), F_X12_choose_c72 τ w1 w2 = some res → va_P z.1 vwCl (mW z r τ) H → va_D A (mW z r τ) → va_S A s.heap H locs → lv_has ls 4 [(0, .ref (r 0)), (1, .int w1), (2, .long w2)] → W p l e { frames := 2, cells := 0, slots := 0, locals := 41 } s m ([.ref (r 0)] : List Value).toArray below meth c H locs 0 0 Q (F0 m 72 ls []) := by
    intro τ w1 w2 H locs ls hf hP hD hS hl
    unfold F_X12_choose_c72 at hf
    refine lv_aload_n hx hb dX12_choose_72 rfl (lv_at hl 0 rfl) ?_
    refine lv_bipush (v := 10) hx hb dX12_choose_73 (by decide) ?_
    refine k_X12_on (a0 := (10 : Int32)) S hK hP tl_X12_118 ⟨Nat.le_of_ble_eq_true rfl, Nat.le_of_ble_eq_true rfl⟩ hl.1 (Nat.le_of_ble_eq_true rfl) dX12_choose_75 ?_
    refine gz_eq (tgt := 89) hx hb dX12_choose_78 (by decide) (fun c_78 => ?_) (fun c_78 => ?_)
    · rw [if_neg c_78] at hf
      exact J_c89 τ w2 H locs ls hf hP hD hS (lv_sub hl [0, 2] rfl)
    · rw [if_pos c_78] at hf
      refine lv_lload_n hx hb dX12_choose_81 rfl (lv_at hl 2 rfl) ?_
      refine lv_lconst (v := 1) hx hb dX12_choose_82 (by decide) ?_
      refine lv_ladd hx hb dX12_choose_83 ?_
      refine lv_iload_n hx hb dX12_choose_84 rfl (lv_at hl 1 rfl) ?_
      refine k_X12_cut (a0 := (w2 + (1 : Int64))) (a1 := w1) S tl_X12_138 ⟨Nat.le_of_ble_eq_true rfl, Nat.le_of_ble_eq_true rfl⟩ hl.1 (Nat.le_of_ble_eq_true rfl) dX12_choose_85 ?_
      refine lv_lstore_n (lv' := [(2, .long (F_X12_cut (w2 + (1 : Int64)) w1)), (0, .ref (r 0)), (1, .int w1)]) hx hb dX12_choose_88 rfl hl (by decide) rfl (fun ls hl => ?_)
      exact J_c89 τ (F_X12_cut (w2 + (1 : Int64)) w1) H locs ls hf hP hD hS (lv_sub hl [1, 0] rfl)
  have J_c53 : ∀ (τ : MS) (w1 : Int32) (w2 : Int64) (H : Heap) (locs : List Loc) (ls : Array Slot), F_X12_choose_c53 τ w1 w2 = some res → va_P z.1 vwCl (mW z r τ) H → va_D A (mW z r τ) → va_S A s.heap H locs → lv_has ls 4 [(0, .ref (r 0)), (1, .int w1), (2, .long w2)] → W p l e { frames := 2, cells := 0, slots := 0, locals := 41 } s m ([.ref (r 0)] : List Value).toArray below meth c H locs 0 0 Q (F0 m 53 ls []) := by
    intro τ w1 w2 H locs ls hf hP hD hS hl
    unfold F_X12_choose_c53 at hf
    refine lv_aload_n hx hb dX12_choose_53 rfl (lv_at hl 0 rfl) ?_
    refine lv_bipush (v := 30) hx hb dX12_choose_54 (by decide) ?_
    refine k_X12_on (a0 := (30 : Int32)) S hK hP tl_X12_118 ⟨Nat.le_of_ble_eq_true rfl, Nat.le_of_ble_eq_true rfl⟩ hl.1 (Nat.le_of_ble_eq_true rfl) dX12_choose_56 ?_
    refine gz_eq (tgt := 72) hx hb dX12_choose_59 (by decide) (fun c_59 => ?_) (fun c_59 => ?_)
    · rw [if_neg c_59] at hf
      exact J_c72 τ w1 w2 H locs ls hf hP hD hS (lv_sub hl [0, 1, 2] rfl)
    · rw [if_pos c_59] at hf
      refine lv_lload_n hx hb dX12_choose_62 rfl (lv_at hl 2 rfl) ?_
      refine lv_ldc2 (v := -1) hx hb hown (hts _ tk_X12_141) dX12_choose_63 ?_
      refine lv_lxor hx hb dX12_choose_66 ?_
      refine lv_iload_n hx hb dX12_choose_67 rfl (lv_at hl 1 rfl) ?_
      refine k_X12_cut (a0 := (w2 ^^^ (-1 : Int64))) (a1 := w1) S tl_X12_138 ⟨Nat.le_of_ble_eq_true rfl, Nat.le_of_ble_eq_true rfl⟩ hl.1 (Nat.le_of_ble_eq_true rfl) dX12_choose_68 ?_
      refine lv_lstore_n (lv' := [(2, .long (F_X12_cut (w2 ^^^ (-1 : Int64)) w1)), (0, .ref (r 0)), (1, .int w1)]) hx hb dX12_choose_71 rfl hl (by decide) rfl (fun ls hl => ?_)
      exact J_c72 τ w1 (F_X12_cut (w2 ^^^ (-1 : Int64)) w1) H locs ls hf hP hD hS (lv_sub hl [1, 2, 0] rfl)
  have J_c21 : ∀ (τ : MS) (w1 : Int32) (w2 : Int64) (H : Heap) (locs : List Loc) (ls : Array Slot), F_X12_choose_c21 τ w1 w2 = some res → va_P z.1 vwCl (mW z r τ) H → va_D A (mW z r τ) → va_S A s.heap H locs → lv_has ls 4 [(0, .ref (r 0)), (1, .int w1), (2, .long w2)] → W p l e { frames := 2, cells := 0, slots := 0, locals := 41 } s m ([.ref (r 0)] : List Value).toArray below meth c H locs 0 0 Q (F0 m 21 ls []) := by
    intro τ w1 w2 H locs ls hf hP hD hS hl
    unfold F_X12_choose_c21 at hf
    refine lv_aload_n hx hb dX12_choose_21 rfl (lv_at hl 0 rfl) ?_
    refine lv_aload_n hx hb dX12_choose_22 rfl (lv_at hl 0 rfl) ?_
    refine lv_bipush (v := 15) hx hb dX12_choose_23 (by decide) ?_
    refine lv_bipush (v := 12) hx hb dX12_choose_25 (by decide) ?_
    obtain ⟨v3, e_v3, hf⟩ := Option.bind_eq_some_iff.mp hf
    refine k_X12_f (a0 := (15 : Int32)) (a1 := (12 : Int32)) (res := v3) (hres := e_v3) S hK hP tl_X12_121 ⟨Nat.le_of_ble_eq_true rfl, Nat.le_of_ble_eq_true rfl⟩ hl.1 (Nat.le_of_ble_eq_true rfl) dX12_choose_27 ?_
    refine k_X12_holds (a0 := v3) S hK hP tl_X12_176 ⟨Nat.le_of_ble_eq_true rfl, Nat.le_of_ble_eq_true rfl⟩ hl.1 (Nat.le_of_ble_eq_true rfl) dX12_choose_30 ?_
    refine gz_ne (tgt := 89) hx hb dX12_choose_33 (by decide) (fun c_33 => ?_) (fun c_33 => ?_)
    · rw [if_pos c_33] at hf
      exact J_c89 τ w2 H locs ls hf hP hD hS (lv_sub hl [0, 2] rfl)
    · rw [if_neg c_33] at hf
      refine lv_aload_n hx hb dX12_choose_36 rfl (lv_at hl 0 rfl) ?_
      refine lv_aload_n hx hb dX12_choose_37 rfl (lv_at hl 0 rfl) ?_
      refine lv_bipush (v := 20) hx hb dX12_choose_38 (by decide) ?_
      refine lv_bipush (v := 16) hx hb dX12_choose_40 (by decide) ?_
      obtain ⟨v6, e_v6, hf⟩ := Option.bind_eq_some_iff.mp hf
      refine k_X12_f (a0 := (20 : Int32)) (a1 := (16 : Int32)) (res := v6) (hres := e_v6) S hK hP tl_X12_121 ⟨Nat.le_of_ble_eq_true rfl, Nat.le_of_ble_eq_true rfl⟩ hl.1 (Nat.le_of_ble_eq_true rfl) dX12_choose_42 ?_
      obtain ⟨v7, e_v7, hf⟩ := Option.bind_eq_some_iff.mp hf
      refine k_X12_reg (a0 := v6) (res := v7) (hres := e_v7) S hK hP tl_X12_161 ⟨Nat.le_of_ble_eq_true rfl, Nat.le_of_ble_eq_true rfl⟩ hl.1 (Nat.le_of_ble_eq_true rfl) dX12_choose_45 ?_
      refine lv_iload_n hx hb dX12_choose_48 rfl (lv_at hl 1 rfl) ?_
      refine k_X12_cut (a0 := v7) (a1 := w1) S tl_X12_138 ⟨Nat.le_of_ble_eq_true rfl, Nat.le_of_ble_eq_true rfl⟩ hl.1 (Nat.le_of_ble_eq_true rfl) dX12_choose_49 ?_
      refine lv_lstore_n (lv' := [(2, .long (F_X12_cut v7 w1)), (0, .ref (r 0)), (1, .int w1)]) hx hb dX12_choose_52 rfl hl (by decide) rfl (fun ls hl => ?_)
      exact J_c53 τ w1 (F_X12_cut v7 w1) H locs ls hf hP hD hS (lv_sub hl [1, 2, 0] rfl)
  have J_c5 : ∀ (τ : MS) (w1 : Int32) (H : Heap) (locs : List Loc) (ls : Array Slot), F_X12_choose_c5 τ w1 = some res → va_P z.1 vwCl (mW z r τ) H → va_D A (mW z r τ) → va_S A s.heap H locs → lv_has ls 4 [(0, .ref (r 0)), (1, .int w1)] → W p l e { frames := 2, cells := 0, slots := 0, locals := 41 } s m ([.ref (r 0)] : List Value).toArray below meth c H locs 0 0 Q (F0 m 5 ls []) := by
    intro τ w1 H locs ls hf hP hD hS hl
    unfold F_X12_choose_c5 at hf
    refine lv_aload_n hx hb dX12_choose_5 rfl (lv_at hl 0 rfl) ?_
    refine lv_aload_n hx hb dX12_choose_6 rfl (lv_at hl 0 rfl) ?_
    refine lv_bipush (v := 9) hx hb dX12_choose_7 (by decide) ?_
    refine lv_iconst (v := 5) hx hb dX12_choose_9 (by decide) ?_
    obtain ⟨v1, e_v1, hf⟩ := Option.bind_eq_some_iff.mp hf
    refine k_X12_f (a0 := (9 : Int32)) (a1 := (5 : Int32)) (res := v1) (hres := e_v1) S hK hP tl_X12_121 ⟨Nat.le_of_ble_eq_true rfl, Nat.le_of_ble_eq_true rfl⟩ hl.1 (Nat.le_of_ble_eq_true rfl) dX12_choose_10 ?_
    obtain ⟨v2, e_v2, hf⟩ := Option.bind_eq_some_iff.mp hf
    refine k_X12_reg (a0 := v1) (res := v2) (hres := e_v2) S hK hP tl_X12_161 ⟨Nat.le_of_ble_eq_true rfl, Nat.le_of_ble_eq_true rfl⟩ hl.1 (Nat.le_of_ble_eq_true rfl) dX12_choose_13 ?_
    refine lv_iload_n hx hb dX12_choose_16 rfl (lv_at hl 1 rfl) ?_
    refine k_X12_cut (a0 := v2) (a1 := w1) S tl_X12_138 ⟨Nat.le_of_ble_eq_true rfl, Nat.le_of_ble_eq_true rfl⟩ hl.1 (Nat.le_of_ble_eq_true rfl) dX12_choose_17 ?_
    refine lv_lstore_n (lv' := [(2, .long (F_X12_cut v2 w1)), (0, .ref (r 0)), (1, .int w1)]) hx hb dX12_choose_20 rfl hl (by decide) rfl (fun ls hl => ?_)
    exact J_c21 τ w1 (F_X12_cut v2 w1) H locs ls hf hP hD hS (lv_sub hl [1, 2, 0] rfl)
  unfold F_X12_choose at hf
  refine lv_aload_n hx hb dX12_choose_0 rfl (lv_at hl 0 rfl) ?_
  refine k_X12_width S hK hP tl_X12_129 ⟨Nat.le_of_ble_eq_true rfl, Nat.le_of_ble_eq_true rfl⟩ hl.1 (Nat.le_of_ble_eq_true rfl) dX12_choose_1 ?_
  refine lv_istore_n (lv' := [(1, .int (F_X12_width σ)), (0, .ref (r 0))]) hx hb dX12_choose_4 rfl hl (by decide) rfl (fun ls hl => ?_)
  exact J_c5 σ (F_X12_width σ) H locs ls hf hP hD hS (lv_sub hl [1, 0] rfl)
theorem k_X12_choose {p : Program} {l : Launch} {e : Env} {R : Room} {s : State} {m : MethodId} {args : Array Value} {below : List Frame} {meth : Method} {c : Code} {H : Heap} {locs : List Loc} {Q : State → Prop} {cc : ByteArray} {pc : Nat} {ls : Array Slot} {rest : List Value} {own : String} {index nL : Nat} {A : Nat → Prop} {z : Cx} {r : Nat → Nat} {σ : MS} {res : MS} (hres : F_X12_choose σ = some res) (S : CallFix p m c cc nL s args tbG own) (hK : va_K z.1 vwCl (cxT z) s) (hA : ∀ q, s.heap.size ≤ q → A q) (hP : va_P z.1 vwCl (mW z r σ) H) (hD : va_D A (mW z r σ)) (hS : va_S A s.heap H locs) (hl : Cond.methodLink own index yX12_choose ∈ tbG) (hR : 2 + 1 ≤ R.frames ∧ 8 + (4 + 11) + 41 ≤ R.locals) (hsz : ls.size = nL) (hcat : (rest.map fun v => v.category).sum ≤ 8) (hdg : decode cc pc = .ok (.invokevirtual index, 3)) (kk : ∀ (H : Heap) (locs : List Loc), va_P z.1 vwCl (mW z r res) H → va_D A (mW z r res) → va_S A s.heap H locs → W p l e R s m args below meth c H locs 0 0 Q (F0 m (pc + 3) ls (rest))) : W p l e R s m args below meth c H locs 0 0 Q (F0 m pc ls (.ref (r 0) :: rest)) :=
  km (As := []) (ov := none) (w' := mW z r res) (q0 := 0) (ci := 11) S hK hA hP hD hS (c_X12_choose l z r σ H.size _ hres) ⟨tb_cB 0 S.2.2.2.2 tc_X12_choose ti_X12 hl rfl rfl (by decide +kernel) hR, S.2.2.2.2 _ tm_X12_choose, S.2.2.2.2 _ te_X12_choose⟩ rfl rfl rfl rfl hsz rfl hcat hdg kk

theorem dX12_compare_0 : decode cX12_compare 0 = .ok (.aload_n 0, 1) := by decide +kernel
theorem dX12_compare_1 : decode cX12_compare 1 = .ok (.invokevirtual 129, 3) := by decide +kernel
theorem dX12_compare_4 : decode cX12_compare 4 = .ok (.istore_n 1, 1) := by decide +kernel
theorem dX12_compare_5 : decode cX12_compare 5 = .ok (.aload_n 0, 1) := by decide +kernel
theorem dX12_compare_6 : decode cX12_compare 6 = .ok (.aload_n 0, 1) := by decide +kernel
theorem dX12_compare_7 : decode cX12_compare 7 = .ok (.bipush 15, 2) := by decide +kernel
theorem dX12_compare_9 : decode cX12_compare 9 = .ok (.bipush 12, 2) := by decide +kernel
theorem dX12_compare_11 : decode cX12_compare 11 = .ok (.invokevirtual 121, 3) := by decide +kernel
theorem dX12_compare_14 : decode cX12_compare 14 = .ok (.invokevirtual 176, 3) := by decide +kernel
theorem dX12_compare_17 : decode cX12_compare 17 = .ok (.ifCond .ne 14, 3) := by decide +kernel
theorem dX12_compare_20 : decode cX12_compare 20 = .ok (.aload_n 0, 1) := by decide +kernel
theorem dX12_compare_21 : decode cX12_compare 21 = .ok (.aload_n 0, 1) := by decide +kernel
theorem dX12_compare_22 : decode cX12_compare 22 = .ok (.iconst 3, 1) := by decide +kernel
theorem dX12_compare_23 : decode cX12_compare 23 = .ok (.iconst 0, 1) := by decide +kernel
theorem dX12_compare_24 : decode cX12_compare 24 = .ok (.invokevirtual 121, 3) := by decide +kernel
theorem dX12_compare_27 : decode cX12_compare 27 = .ok (.putfield 25, 3) := by decide +kernel
theorem dX12_compare_30 : decode cX12_compare 30 = .ok (.return_, 1) := by decide +kernel
theorem dX12_compare_31 : decode cX12_compare 31 = .ok (.aload_n 0, 1) := by decide +kernel
theorem dX12_compare_32 : decode cX12_compare 32 = .ok (.aload_n 0, 1) := by decide +kernel
theorem dX12_compare_33 : decode cX12_compare 33 = .ok (.bipush 9, 2) := by decide +kernel
theorem dX12_compare_35 : decode cX12_compare 35 = .ok (.iconst 5, 1) := by decide +kernel
theorem dX12_compare_36 : decode cX12_compare 36 = .ok (.invokevirtual 121, 3) := by decide +kernel
theorem dX12_compare_39 : decode cX12_compare 39 = .ok (.invokevirtual 161, 3) := by decide +kernel
theorem dX12_compare_42 : decode cX12_compare 42 = .ok (.iload_n 1, 1) := by decide +kernel
theorem dX12_compare_43 : decode cX12_compare 43 = .ok (.invokestatic 138, 3) := by decide +kernel
theorem dX12_compare_46 : decode cX12_compare 46 = .ok (.lstore_n 2, 1) := by decide +kernel
theorem dX12_compare_47 : decode cX12_compare 47 = .ok (.aload_n 0, 1) := by decide +kernel
theorem dX12_compare_48 : decode cX12_compare 48 = .ok (.bipush 20, 2) := by decide +kernel
theorem dX12_compare_50 : decode cX12_compare 50 = .ok (.bipush 16, 2) := by decide +kernel
theorem dX12_compare_52 : decode cX12_compare 52 = .ok (.invokevirtual 121, 3) := by decide +kernel
theorem dX12_compare_55 : decode cX12_compare 55 = .ok (.i2l, 1) := by decide +kernel
theorem dX12_compare_56 : decode cX12_compare 56 = .ok (.lstore 4, 2) := by decide +kernel
theorem dX12_compare_58 : decode cX12_compare 58 = .ok (.aload_n 0, 1) := by decide +kernel
theorem dX12_compare_59 : decode cX12_compare 59 = .ok (.bipush 11, 2) := by decide +kernel
theorem dX12_compare_61 : decode cX12_compare 61 = .ok (.invokevirtual 118, 3) := by decide +kernel
theorem dX12_compare_64 : decode cX12_compare 64 = .ok (.ifCond .ne 21, 3) := by decide +kernel
theorem dX12_compare_67 : decode cX12_compare 67 = .ok (.aload_n 0, 1) := by decide +kernel
theorem dX12_compare_68 : decode cX12_compare 68 = .ok (.aload_n 0, 1) := by decide +kernel
theorem dX12_compare_69 : decode cX12_compare 69 = .ok (.bipush 20, 2) := by decide +kernel
theorem dX12_compare_71 : decode cX12_compare 71 = .ok (.bipush 16, 2) := by decide +kernel
theorem dX12_compare_73 : decode cX12_compare 73 = .ok (.invokevirtual 121, 3) := by decide +kernel
theorem dX12_compare_76 : decode cX12_compare 76 = .ok (.invokevirtual 161, 3) := by decide +kernel
theorem dX12_compare_79 : decode cX12_compare 79 = .ok (.iload_n 1, 1) := by decide +kernel
theorem dX12_compare_80 : decode cX12_compare 80 = .ok (.invokestatic 138, 3) := by decide +kernel
theorem dX12_compare_83 : decode cX12_compare 83 = .ok (.lstore 4, 2) := by decide +kernel
theorem dX12_compare_85 : decode cX12_compare 85 = .ok (.lconst 0, 1) := by decide +kernel
theorem dX12_compare_86 : decode cX12_compare 86 = .ok (.lstore 6, 2) := by decide +kernel
theorem dX12_compare_88 : decode cX12_compare 88 = .ok (.aload_n 0, 1) := by decide +kernel
theorem dX12_compare_89 : decode cX12_compare 89 = .ok (.bipush 30, 2) := by decide +kernel
theorem dX12_compare_91 : decode cX12_compare 91 = .ok (.invokevirtual 118, 3) := by decide +kernel
theorem dX12_compare_94 : decode cX12_compare 94 = .ok (.ifCond .eq 25, 3) := by decide +kernel
theorem dX12_compare_97 : decode cX12_compare 97 = .ok (.aload_n 0, 1) := by decide +kernel
theorem dX12_compare_98 : decode cX12_compare 98 = .ok (.lload_n 2, 1) := by decide +kernel
theorem dX12_compare_99 : decode cX12_compare 99 = .ok (.lload 4, 2) := by decide +kernel
theorem dX12_compare_101 : decode cX12_compare 101 = .ok (.ldc2_w 141, 3) := by decide +kernel
theorem dX12_compare_104 : decode cX12_compare 104 = .ok (.lxor, 1) := by decide +kernel
theorem dX12_compare_105 : decode cX12_compare 105 = .ok (.iload_n 1, 1) := by decide +kernel
theorem dX12_compare_106 : decode cX12_compare 106 = .ok (.invokestatic 138, 3) := by decide +kernel
theorem dX12_compare_109 : decode cX12_compare 109 = .ok (.iconst 1, 1) := by decide +kernel
theorem dX12_compare_110 : decode cX12_compare 110 = .ok (.iload_n 1, 1) := by decide +kernel
theorem dX12_compare_111 : decode cX12_compare 111 = .ok (.invokevirtual 143, 3) := by decide +kernel
theorem dX12_compare_114 : decode cX12_compare 114 = .ok (.lstore 6, 2) := by decide +kernel
theorem dX12_compare_116 : decode cX12_compare 116 = .ok (.goto 14, 3) := by decide +kernel
theorem dX12_compare_119 : decode cX12_compare 119 = .ok (.aload_n 0, 1) := by decide +kernel
theorem dX12_compare_120 : decode cX12_compare 120 = .ok (.lload_n 2, 1) := by decide +kernel
theorem dX12_compare_121 : decode cX12_compare 121 = .ok (.lload 4, 2) := by decide +kernel
theorem dX12_compare_123 : decode cX12_compare 123 = .ok (.iconst 0, 1) := by decide +kernel
theorem dX12_compare_124 : decode cX12_compare 124 = .ok (.iload_n 1, 1) := by decide +kernel
theorem dX12_compare_125 : decode cX12_compare 125 = .ok (.invokevirtual 143, 3) := by decide +kernel
theorem dX12_compare_128 : decode cX12_compare 128 = .ok (.lstore 6, 2) := by decide +kernel
theorem dX12_compare_130 : decode cX12_compare 130 = .ok (.aload_n 0, 1) := by decide +kernel
theorem dX12_compare_131 : decode cX12_compare 131 = .ok (.lload 6, 2) := by decide +kernel
theorem dX12_compare_133 : decode cX12_compare 133 = .ok (.iload_n 1, 1) := by decide +kernel
theorem dX12_compare_134 : decode cX12_compare 134 = .ok (.aload_n 0, 1) := by decide +kernel
theorem dX12_compare_135 : decode cX12_compare 135 = .ok (.getfield 51, 3) := by decide +kernel
theorem dX12_compare_138 : decode cX12_compare 138 = .ok (.aload_n 0, 1) := by decide +kernel
theorem dX12_compare_139 : decode cX12_compare 139 = .ok (.getfield 54, 3) := by decide +kernel
theorem dX12_compare_142 : decode cX12_compare 142 = .ok (.invokevirtual 147, 3) := by decide +kernel
theorem dX12_compare_145 : decode cX12_compare 145 = .ok (.return_, 1) := by decide +kernel
def F_X12_compare_c130 (τ : MS) (w1 : Int32) (w6 : Int64) : Option (MS) := some ((F_X12_signs τ w6 w1 (m_carry τ) (m_over τ)))
def F_X12_compare_c85 (τ : MS) (w1 : Int32) (w2 : Int64) (w4 : Int64) : Option (MS) := (if (F_X12_on τ (30 : Int32)) = true then ((F_X12_sum τ w2 (F_X12_cut (w4 ^^^ (-1 : Int64)) w1) (1 : Int32) w1).bind fun v6 => (F_X12_compare_c130 v6.2 w1 v6.1)) else ((F_X12_sum τ w2 w4 (0 : Int32) w1).bind fun v5 => (F_X12_compare_c130 v5.2 w1 v5.1)))
def F_X12_compare_c47 (τ : MS) (w1 : Int32) (w2 : Int64) : Option (MS) := ((F_X12_f τ (20 : Int32) (16 : Int32)).bind fun v4 => (if (F_X12_on τ (11 : Int32)) = true then (F_X12_compare_c85 τ w1 w2 v4.toInt64) else ((F_X12_f τ (20 : Int32) (16 : Int32)).bind fun v7 => ((F_X12_reg τ v7).bind fun v8 => (F_X12_compare_c85 τ w1 w2 (F_X12_cut v8 w1))))))
def F_X12_compare_c5 (τ : MS) (w1 : Int32) : Option (MS) := ((F_X12_f τ (15 : Int32) (12 : Int32)).bind fun v1 => (if (F_X12_holds τ v1) = true then ((F_X12_f τ (9 : Int32) (5 : Int32)).bind fun v2 => ((F_X12_reg τ v2).bind fun v3 => (F_X12_compare_c47 τ w1 (F_X12_cut v3 w1)))) else ((F_X12_f τ (3 : Int32) (0 : Int32)).bind fun v9 => some ((mu_flags τ v9)))))
def F_X12_compare (σ : MS)  : Option (MS) := (F_X12_compare_c5 σ (F_X12_width σ))
set_option maxHeartbeats 4000000 in
set_option maxRecDepth 100000 in
theorem c_X12_compare (l : Launch) (z : Cx) (r : Nat → Nat) (σ : MS) (sz : Nat) (res : MS) (hf : F_X12_compare σ = some res) : Met l yX12_compare (wsC yX12_compare cX12_compare 8 none) { frames := 2, cells := 0, slots := 0, locals := 48 } (mPc z (mW z r σ) sz [.ref (r 0)]) (gM z (va_A (mW z r σ) sz) none (mW z r res)) 0 0 (va_A (mW z r σ) sz) := by
  refine mk_m_v (own := RX12) (wf := mW z r) (by decide) rfl sz _ (Nat.le_of_ble_eq_true rfl) (fun p e s m below meth c A H locs Q ls S hK hA hP hD hS hl hend => ?_)
  have hx := S.1
  have hb := S.2.1
  have hown := S.2.2.2.1
  have hts := S.2.2.2.2
  have hl : lv_has ls 8 [(0, .ref (r 0))] := hl
  have J_c130 : ∀ (τ : MS) (w1 : Int32) (w6 : Int64) (H : Heap) (locs : List Loc) (ls : Array Slot), F_X12_compare_c130 τ w1 w6 = some res → va_P z.1 vwCl (mW z r τ) H → va_D A (mW z r τ) → va_S A s.heap H locs → lv_has ls 8 [(0, .ref (r 0)), (1, .int w1), (6, .long w6)] → W p l e { frames := 2, cells := 0, slots := 0, locals := 48 } s m ([.ref (r 0)] : List Value).toArray below meth c H locs 0 0 Q (F0 m 130 ls []) := by
    intro τ w1 w6 H locs ls hf hP hD hS hl
    unfold F_X12_compare_c130 at hf
    refine lv_aload_n hx hb dX12_compare_130 rfl (lv_at hl 0 rfl) ?_
    refine lv_lload hx hb dX12_compare_131 (lv_at hl 2 rfl) ?_
    refine lv_iload_n hx hb dX12_compare_133 rfl (lv_at hl 1 rfl) ?_
    refine lv_aload_n hx hb dX12_compare_134 rfl (lv_at hl 0 rfl) ?_
    refine fg_X12_carry S hK hP tf_X12_51 dX12_compare_135 ?_
    refine lv_aload_n hx hb dX12_compare_138 rfl (lv_at hl 0 rfl) ?_
    refine fg_X12_over S hK hP tf_X12_54 dX12_compare_139 ?_
    refine k_X12_signs (a0 := w6) (a1 := w1) (a2 := (m_carry τ)) (a3 := (m_over τ)) S hK hA hP hD hS tl_X12_147 ⟨Nat.le_of_ble_eq_true rfl, Nat.le_of_ble_eq_true rfl⟩ hl.1 (Nat.le_of_ble_eq_true rfl) dX12_compare_142 (fun H locs hP hD hS => ?_)
    exact hend (F_X12_signs τ w6 w1 (m_carry τ) (m_over τ)) H locs 145 ls (Option.some.inj hf) hP hD hS dX12_compare_145
  have J_c85 : ∀ (τ : MS) (w1 : Int32) (w2 : Int64) (w4 : Int64) (H : Heap) (locs : List Loc) (ls : Array Slot), F_X12_compare_c85 τ w1 w2 w4 = some res → va_P z.1 vwCl (mW z r τ) H → va_D A (mW z r τ) → va_S A s.heap H locs → lv_has ls 8 [(0, .ref (r 0)), (1, .int w1), (2, .long w2), (4, .long w4)] → W p l e { frames := 2, cells := 0, slots := 0, locals := 48 } s m ([.ref (r 0)] : List Value).toArray below meth c H locs 0 0 Q (F0 m 85 ls []) := by
    intro τ w1 w2 w4 H locs ls hf hP hD hS hl
    unfold F_X12_compare_c85 at hf
    refine lv_lconst (v := 0) hx hb dX12_compare_85 (by decide) ?_
    refine lv_lstore (lv' := [(6, .long (0 : Int64)), (0, .ref (r 0)), (1, .int w1), (2, .long w2), (4, .long w4)]) hx hb dX12_compare_86 hl (by decide) rfl (fun ls hl => ?_)
    refine lv_aload_n hx hb dX12_compare_88 rfl (lv_at hl 1 rfl) ?_
    refine lv_bipush (v := 30) hx hb dX12_compare_89 (by decide) ?_
    refine k_X12_on (a0 := (30 : Int32)) S hK hP tl_X12_118 ⟨Nat.le_of_ble_eq_true rfl, Nat.le_of_ble_eq_true rfl⟩ hl.1 (Nat.le_of_ble_eq_true rfl) dX12_compare_91 ?_
    refine gz_eq (tgt := 119) hx hb dX12_compare_94 (by decide) (fun c_94 => ?_) (fun c_94 => ?_)
    · rw [if_neg c_94] at hf
      refine lv_aload_n hx hb dX12_compare_119 rfl (lv_at hl 1 rfl) ?_
      refine lv_lload_n hx hb dX12_compare_120 rfl (lv_at hl 3 rfl) ?_
      refine lv_lload hx hb dX12_compare_121 (lv_at hl 4 rfl) ?_
      refine lv_iconst (v := 0) hx hb dX12_compare_123 (by decide) ?_
      refine lv_iload_n hx hb dX12_compare_124 rfl (lv_at hl 2 rfl) ?_
      obtain ⟨v5, e_v5, hf⟩ := Option.bind_eq_some_iff.mp hf
      refine k_X12_sum (a0 := w2) (a1 := w4) (a2 := (0 : Int32)) (a3 := w1) (res := v5) (hres := e_v5) S hK hA hP hD hS tl_X12_143 ⟨Nat.le_of_ble_eq_true rfl, Nat.le_of_ble_eq_true rfl⟩ hl.1 (Nat.le_of_ble_eq_true rfl) dX12_compare_125 (fun H locs hP hD hS => ?_)
      refine lv_lstore (lv' := [(6, .long v5.1), (0, .ref (r 0)), (1, .int w1), (2, .long w2), (4, .long w4)]) hx hb dX12_compare_128 hl (by decide) rfl (fun ls hl => ?_)
      exact J_c130 v5.2 w1 v5.1 H locs ls hf hP hD hS (lv_sub hl [1, 2, 0] rfl)
    · rw [if_pos c_94] at hf
      refine lv_aload_n hx hb dX12_compare_97 rfl (lv_at hl 1 rfl) ?_
      refine lv_lload_n hx hb dX12_compare_98 rfl (lv_at hl 3 rfl) ?_
      refine lv_lload hx hb dX12_compare_99 (lv_at hl 4 rfl) ?_
      refine lv_ldc2 (v := -1) hx hb hown (hts _ tk_X12_141) dX12_compare_101 ?_
      refine lv_lxor hx hb dX12_compare_104 ?_
      refine lv_iload_n hx hb dX12_compare_105 rfl (lv_at hl 2 rfl) ?_
      refine k_X12_cut (a0 := (w4 ^^^ (-1 : Int64))) (a1 := w1) S tl_X12_138 ⟨Nat.le_of_ble_eq_true rfl, Nat.le_of_ble_eq_true rfl⟩ hl.1 (Nat.le_of_ble_eq_true rfl) dX12_compare_106 ?_
      refine lv_iconst (v := 1) hx hb dX12_compare_109 (by decide) ?_
      refine lv_iload_n hx hb dX12_compare_110 rfl (lv_at hl 2 rfl) ?_
      obtain ⟨v6, e_v6, hf⟩ := Option.bind_eq_some_iff.mp hf
      refine k_X12_sum (a0 := w2) (a1 := (F_X12_cut (w4 ^^^ (-1 : Int64)) w1)) (a2 := (1 : Int32)) (a3 := w1) (res := v6) (hres := e_v6) S hK hA hP hD hS tl_X12_143 ⟨Nat.le_of_ble_eq_true rfl, Nat.le_of_ble_eq_true rfl⟩ hl.1 (Nat.le_of_ble_eq_true rfl) dX12_compare_111 (fun H locs hP hD hS => ?_)
      refine lv_lstore (lv' := [(6, .long v6.1), (0, .ref (r 0)), (1, .int w1), (2, .long w2), (4, .long w4)]) hx hb dX12_compare_114 hl (by decide) rfl (fun ls hl => ?_)
      refine lv_goto (tgt := 130) hx hb dX12_compare_116 (by decide) ?_
      exact J_c130 v6.2 w1 v6.1 H locs ls hf hP hD hS (lv_sub hl [1, 2, 0] rfl)
  have J_c47 : ∀ (τ : MS) (w1 : Int32) (w2 : Int64) (H : Heap) (locs : List Loc) (ls : Array Slot), F_X12_compare_c47 τ w1 w2 = some res → va_P z.1 vwCl (mW z r τ) H → va_D A (mW z r τ) → va_S A s.heap H locs → lv_has ls 8 [(0, .ref (r 0)), (1, .int w1), (2, .long w2)] → W p l e { frames := 2, cells := 0, slots := 0, locals := 48 } s m ([.ref (r 0)] : List Value).toArray below meth c H locs 0 0 Q (F0 m 47 ls []) := by
    intro τ w1 w2 H locs ls hf hP hD hS hl
    unfold F_X12_compare_c47 at hf
    refine lv_aload_n hx hb dX12_compare_47 rfl (lv_at hl 0 rfl) ?_
    refine lv_bipush (v := 20) hx hb dX12_compare_48 (by decide) ?_
    refine lv_bipush (v := 16) hx hb dX12_compare_50 (by decide) ?_
    obtain ⟨v4, e_v4, hf⟩ := Option.bind_eq_some_iff.mp hf
    refine k_X12_f (a0 := (20 : Int32)) (a1 := (16 : Int32)) (res := v4) (hres := e_v4) S hK hP tl_X12_121 ⟨Nat.le_of_ble_eq_true rfl, Nat.le_of_ble_eq_true rfl⟩ hl.1 (Nat.le_of_ble_eq_true rfl) dX12_compare_52 ?_
    refine lv_i2l hx hb dX12_compare_55 rfl ?_
    refine lv_lstore (lv' := [(4, .long v4.toInt64), (0, .ref (r 0)), (1, .int w1), (2, .long w2)]) hx hb dX12_compare_56 hl (by decide) rfl (fun ls hl => ?_)
    refine lv_aload_n hx hb dX12_compare_58 rfl (lv_at hl 1 rfl) ?_
    refine lv_bipush (v := 11) hx hb dX12_compare_59 (by decide) ?_
    refine k_X12_on (a0 := (11 : Int32)) S hK hP tl_X12_118 ⟨Nat.le_of_ble_eq_true rfl, Nat.le_of_ble_eq_true rfl⟩ hl.1 (Nat.le_of_ble_eq_true rfl) dX12_compare_61 ?_
    refine gz_ne (tgt := 85) hx hb dX12_compare_64 (by decide) (fun c_64 => ?_) (fun c_64 => ?_)
    · rw [if_pos c_64] at hf
      exact J_c85 τ w1 w2 v4.toInt64 H locs ls hf hP hD hS (lv_sub hl [1, 2, 3, 0] rfl)
    · rw [if_neg c_64] at hf
      refine lv_aload_n hx hb dX12_compare_67 rfl (lv_at hl 1 rfl) ?_
      refine lv_aload_n hx hb dX12_compare_68 rfl (lv_at hl 1 rfl) ?_
      refine lv_bipush (v := 20) hx hb dX12_compare_69 (by decide) ?_
      refine lv_bipush (v := 16) hx hb dX12_compare_71 (by decide) ?_
      obtain ⟨v7, e_v7, hf⟩ := Option.bind_eq_some_iff.mp hf
      refine k_X12_f (a0 := (20 : Int32)) (a1 := (16 : Int32)) (res := v7) (hres := e_v7) S hK hP tl_X12_121 ⟨Nat.le_of_ble_eq_true rfl, Nat.le_of_ble_eq_true rfl⟩ hl.1 (Nat.le_of_ble_eq_true rfl) dX12_compare_73 ?_
      obtain ⟨v8, e_v8, hf⟩ := Option.bind_eq_some_iff.mp hf
      refine k_X12_reg (a0 := v7) (res := v8) (hres := e_v8) S hK hP tl_X12_161 ⟨Nat.le_of_ble_eq_true rfl, Nat.le_of_ble_eq_true rfl⟩ hl.1 (Nat.le_of_ble_eq_true rfl) dX12_compare_76 ?_
      refine lv_iload_n hx hb dX12_compare_79 rfl (lv_at hl 2 rfl) ?_
      refine k_X12_cut (a0 := v8) (a1 := w1) S tl_X12_138 ⟨Nat.le_of_ble_eq_true rfl, Nat.le_of_ble_eq_true rfl⟩ hl.1 (Nat.le_of_ble_eq_true rfl) dX12_compare_80 ?_
      refine lv_lstore (lv' := [(4, .long (F_X12_cut v8 w1)), (0, .ref (r 0)), (1, .int w1), (2, .long w2)]) hx hb dX12_compare_83 hl (by decide) rfl (fun ls hl => ?_)
      exact J_c85 τ w1 w2 (F_X12_cut v8 w1) H locs ls hf hP hD hS (lv_sub hl [1, 2, 3, 0] rfl)
  have J_c5 : ∀ (τ : MS) (w1 : Int32) (H : Heap) (locs : List Loc) (ls : Array Slot), F_X12_compare_c5 τ w1 = some res → va_P z.1 vwCl (mW z r τ) H → va_D A (mW z r τ) → va_S A s.heap H locs → lv_has ls 8 [(0, .ref (r 0)), (1, .int w1)] → W p l e { frames := 2, cells := 0, slots := 0, locals := 48 } s m ([.ref (r 0)] : List Value).toArray below meth c H locs 0 0 Q (F0 m 5 ls []) := by
    intro τ w1 H locs ls hf hP hD hS hl
    unfold F_X12_compare_c5 at hf
    refine lv_aload_n hx hb dX12_compare_5 rfl (lv_at hl 0 rfl) ?_
    refine lv_aload_n hx hb dX12_compare_6 rfl (lv_at hl 0 rfl) ?_
    refine lv_bipush (v := 15) hx hb dX12_compare_7 (by decide) ?_
    refine lv_bipush (v := 12) hx hb dX12_compare_9 (by decide) ?_
    obtain ⟨v1, e_v1, hf⟩ := Option.bind_eq_some_iff.mp hf
    refine k_X12_f (a0 := (15 : Int32)) (a1 := (12 : Int32)) (res := v1) (hres := e_v1) S hK hP tl_X12_121 ⟨Nat.le_of_ble_eq_true rfl, Nat.le_of_ble_eq_true rfl⟩ hl.1 (Nat.le_of_ble_eq_true rfl) dX12_compare_11 ?_
    refine k_X12_holds (a0 := v1) S hK hP tl_X12_176 ⟨Nat.le_of_ble_eq_true rfl, Nat.le_of_ble_eq_true rfl⟩ hl.1 (Nat.le_of_ble_eq_true rfl) dX12_compare_14 ?_
    refine gz_ne (tgt := 31) hx hb dX12_compare_17 (by decide) (fun c_17 => ?_) (fun c_17 => ?_)
    · rw [if_pos c_17] at hf
      refine lv_aload_n hx hb dX12_compare_31 rfl (lv_at hl 0 rfl) ?_
      refine lv_aload_n hx hb dX12_compare_32 rfl (lv_at hl 0 rfl) ?_
      refine lv_bipush (v := 9) hx hb dX12_compare_33 (by decide) ?_
      refine lv_iconst (v := 5) hx hb dX12_compare_35 (by decide) ?_
      obtain ⟨v2, e_v2, hf⟩ := Option.bind_eq_some_iff.mp hf
      refine k_X12_f (a0 := (9 : Int32)) (a1 := (5 : Int32)) (res := v2) (hres := e_v2) S hK hP tl_X12_121 ⟨Nat.le_of_ble_eq_true rfl, Nat.le_of_ble_eq_true rfl⟩ hl.1 (Nat.le_of_ble_eq_true rfl) dX12_compare_36 ?_
      obtain ⟨v3, e_v3, hf⟩ := Option.bind_eq_some_iff.mp hf
      refine k_X12_reg (a0 := v2) (res := v3) (hres := e_v3) S hK hP tl_X12_161 ⟨Nat.le_of_ble_eq_true rfl, Nat.le_of_ble_eq_true rfl⟩ hl.1 (Nat.le_of_ble_eq_true rfl) dX12_compare_39 ?_
      refine lv_iload_n hx hb dX12_compare_42 rfl (lv_at hl 1 rfl) ?_
      refine k_X12_cut (a0 := v3) (a1 := w1) S tl_X12_138 ⟨Nat.le_of_ble_eq_true rfl, Nat.le_of_ble_eq_true rfl⟩ hl.1 (Nat.le_of_ble_eq_true rfl) dX12_compare_43 ?_
      refine lv_lstore_n (lv' := [(2, .long (F_X12_cut v3 w1)), (0, .ref (r 0)), (1, .int w1)]) hx hb dX12_compare_46 rfl hl (by decide) rfl (fun ls hl => ?_)
      exact J_c47 τ w1 (F_X12_cut v3 w1) H locs ls hf hP hD hS (lv_sub hl [1, 2, 0] rfl)
    · rw [if_neg c_17] at hf
      refine lv_aload_n hx hb dX12_compare_20 rfl (lv_at hl 0 rfl) ?_
      refine lv_aload_n hx hb dX12_compare_21 rfl (lv_at hl 0 rfl) ?_
      refine lv_iconst (v := 3) hx hb dX12_compare_22 (by decide) ?_
      refine lv_iconst (v := 0) hx hb dX12_compare_23 (by decide) ?_
      obtain ⟨v9, e_v9, hf⟩ := Option.bind_eq_some_iff.mp hf
      refine k_X12_f (a0 := (3 : Int32)) (a1 := (0 : Int32)) (res := v9) (hres := e_v9) S hK hP tl_X12_121 ⟨Nat.le_of_ble_eq_true rfl, Nat.le_of_ble_eq_true rfl⟩ hl.1 (Nat.le_of_ble_eq_true rfl) dX12_compare_24 ?_
      refine fp_X12_flags (v := v9) S hK hP hD hS tf_X12_25 dX12_compare_27 (fun H locs hP hD hS => ?_)
      exact hend (mu_flags τ v9) H locs 30 ls (Option.some.inj hf) hP hD hS dX12_compare_30
  unfold F_X12_compare at hf
  refine lv_aload_n hx hb dX12_compare_0 rfl (lv_at hl 0 rfl) ?_
  refine k_X12_width S hK hP tl_X12_129 ⟨Nat.le_of_ble_eq_true rfl, Nat.le_of_ble_eq_true rfl⟩ hl.1 (Nat.le_of_ble_eq_true rfl) dX12_compare_1 ?_
  refine lv_istore_n (lv' := [(1, .int (F_X12_width σ)), (0, .ref (r 0))]) hx hb dX12_compare_4 rfl hl (by decide) rfl (fun ls hl => ?_)
  exact J_c5 σ (F_X12_width σ) H locs ls hf hP hD hS (lv_sub hl [1, 0] rfl)
theorem k_X12_compare {p : Program} {l : Launch} {e : Env} {R : Room} {s : State} {m : MethodId} {args : Array Value} {below : List Frame} {meth : Method} {c : Code} {H : Heap} {locs : List Loc} {Q : State → Prop} {cc : ByteArray} {pc : Nat} {ls : Array Slot} {rest : List Value} {own : String} {index nL : Nat} {A : Nat → Prop} {z : Cx} {r : Nat → Nat} {σ : MS} {res : MS} (hres : F_X12_compare σ = some res) (S : CallFix p m c cc nL s args tbG own) (hK : va_K z.1 vwCl (cxT z) s) (hA : ∀ q, s.heap.size ≤ q → A q) (hP : va_P z.1 vwCl (mW z r σ) H) (hD : va_D A (mW z r σ)) (hS : va_S A s.heap H locs) (hl : Cond.methodLink own index yX12_compare ∈ tbG) (hR : 2 + 1 ≤ R.frames ∧ 8 + (8 + 11) + 48 ≤ R.locals) (hsz : ls.size = nL) (hcat : (rest.map fun v => v.category).sum ≤ 8) (hdg : decode cc pc = .ok (.invokevirtual index, 3)) (kk : ∀ (H : Heap) (locs : List Loc), va_P z.1 vwCl (mW z r res) H → va_D A (mW z r res) → va_S A s.heap H locs → W p l e R s m args below meth c H locs 0 0 Q (F0 m (pc + 3) ls (rest))) : W p l e R s m args below meth c H locs 0 0 Q (F0 m pc ls (.ref (r 0) :: rest)) :=
  km (As := []) (ov := none) (w' := mW z r res) (q0 := 0) (ci := 11) S hK hA hP hD hS (c_X12_compare l z r σ H.size _ hres) ⟨tb_cB 0 S.2.2.2.2 tc_X12_compare ti_X12 hl rfl rfl (by decide +kernel) hR, S.2.2.2.2 _ tm_X12_compare, S.2.2.2.2 _ te_X12_compare⟩ rfl rfl rfl rfl hsz rfl hcat hdg kk

