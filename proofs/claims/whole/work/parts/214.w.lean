theorem dX12_times_0 : decode cX12_times 0 = .ok (.aload_n 0, 1) := by decide +kernel
theorem dX12_times_1 : decode cX12_times 1 = .ok (.invokevirtual 129, 3) := by decide +kernel
theorem dX12_times_4 : decode cX12_times 4 = .ok (.istore_n 1, 1) := by decide +kernel
theorem dX12_times_5 : decode cX12_times 5 = .ok (.aload_n 0, 1) := by decide +kernel
theorem dX12_times_6 : decode cX12_times 6 = .ok (.aload_n 0, 1) := by decide +kernel
theorem dX12_times_7 : decode cX12_times 7 = .ok (.bipush 9, 2) := by decide +kernel
theorem dX12_times_9 : decode cX12_times 9 = .ok (.iconst 5, 1) := by decide +kernel
theorem dX12_times_10 : decode cX12_times 10 = .ok (.invokevirtual 121, 3) := by decide +kernel
theorem dX12_times_13 : decode cX12_times 13 = .ok (.invokevirtual 161, 3) := by decide +kernel
theorem dX12_times_16 : decode cX12_times 16 = .ok (.aload_n 0, 1) := by decide +kernel
theorem dX12_times_17 : decode cX12_times 17 = .ok (.aload_n 0, 1) := by decide +kernel
theorem dX12_times_18 : decode cX12_times 18 = .ok (.bipush 20, 2) := by decide +kernel
theorem dX12_times_20 : decode cX12_times 20 = .ok (.bipush 16, 2) := by decide +kernel
theorem dX12_times_22 : decode cX12_times 22 = .ok (.invokevirtual 121, 3) := by decide +kernel
theorem dX12_times_25 : decode cX12_times 25 = .ok (.invokevirtual 161, 3) := by decide +kernel
theorem dX12_times_28 : decode cX12_times 28 = .ok (.lmul, 1) := by decide +kernel
theorem dX12_times_29 : decode cX12_times 29 = .ok (.lstore_n 2, 1) := by decide +kernel
theorem dX12_times_30 : decode cX12_times 30 = .ok (.aload_n 0, 1) := by decide +kernel
theorem dX12_times_31 : decode cX12_times 31 = .ok (.aload_n 0, 1) := by decide +kernel
theorem dX12_times_32 : decode cX12_times 32 = .ok (.bipush 14, 2) := by decide +kernel
theorem dX12_times_34 : decode cX12_times 34 = .ok (.bipush 10, 2) := by decide +kernel
theorem dX12_times_36 : decode cX12_times 36 = .ok (.invokevirtual 121, 3) := by decide +kernel
theorem dX12_times_39 : decode cX12_times 39 = .ok (.invokevirtual 161, 3) := by decide +kernel
theorem dX12_times_42 : decode cX12_times 42 = .ok (.lstore 4, 2) := by decide +kernel
theorem dX12_times_44 : decode cX12_times 44 = .ok (.aload_n 0, 1) := by decide +kernel
theorem dX12_times_45 : decode cX12_times 45 = .ok (.bipush 15, 2) := by decide +kernel
theorem dX12_times_47 : decode cX12_times 47 = .ok (.invokevirtual 118, 3) := by decide +kernel
theorem dX12_times_50 : decode cX12_times 50 = .ok (.ifCond .eq 24, 3) := by decide +kernel
theorem dX12_times_53 : decode cX12_times 53 = .ok (.aload_n 0, 1) := by decide +kernel
theorem dX12_times_54 : decode cX12_times 54 = .ok (.aload_n 0, 1) := by decide +kernel
theorem dX12_times_55 : decode cX12_times 55 = .ok (.iconst 4, 1) := by decide +kernel
theorem dX12_times_56 : decode cX12_times 56 = .ok (.iconst 0, 1) := by decide +kernel
theorem dX12_times_57 : decode cX12_times 57 = .ok (.invokevirtual 121, 3) := by decide +kernel
theorem dX12_times_60 : decode cX12_times 60 = .ok (.lload 4, 2) := by decide +kernel
theorem dX12_times_62 : decode cX12_times 62 = .ok (.lload_n 2, 1) := by decide +kernel
theorem dX12_times_63 : decode cX12_times 63 = .ok (.lsub, 1) := by decide +kernel
theorem dX12_times_64 : decode cX12_times 64 = .ok (.iload_n 1, 1) := by decide +kernel
theorem dX12_times_65 : decode cX12_times 65 = .ok (.invokestatic 138, 3) := by decide +kernel
theorem dX12_times_68 : decode cX12_times 68 = .ok (.invokevirtual 151, 3) := by decide +kernel
theorem dX12_times_71 : decode cX12_times 71 = .ok (.goto 21, 3) := by decide +kernel
theorem dX12_times_74 : decode cX12_times 74 = .ok (.aload_n 0, 1) := by decide +kernel
theorem dX12_times_75 : decode cX12_times 75 = .ok (.aload_n 0, 1) := by decide +kernel
theorem dX12_times_76 : decode cX12_times 76 = .ok (.iconst 4, 1) := by decide +kernel
theorem dX12_times_77 : decode cX12_times 77 = .ok (.iconst 0, 1) := by decide +kernel
theorem dX12_times_78 : decode cX12_times 78 = .ok (.invokevirtual 121, 3) := by decide +kernel
theorem dX12_times_81 : decode cX12_times 81 = .ok (.lload 4, 2) := by decide +kernel
theorem dX12_times_83 : decode cX12_times 83 = .ok (.lload_n 2, 1) := by decide +kernel
theorem dX12_times_84 : decode cX12_times 84 = .ok (.ladd, 1) := by decide +kernel
theorem dX12_times_85 : decode cX12_times 85 = .ok (.iload_n 1, 1) := by decide +kernel
theorem dX12_times_86 : decode cX12_times 86 = .ok (.invokestatic 138, 3) := by decide +kernel
theorem dX12_times_89 : decode cX12_times 89 = .ok (.invokevirtual 151, 3) := by decide +kernel
theorem dX12_times_92 : decode cX12_times 92 = .ok (.return_, 1) := by decide +kernel
def F_X12_times_c5 (τ : MS) (w1 : Int32) : Option (MS) := ((F_X12_f τ (9 : Int32) (5 : Int32)).bind fun v1 => ((F_X12_reg τ v1).bind fun v2 => ((F_X12_f τ (20 : Int32) (16 : Int32)).bind fun v3 => ((F_X12_reg τ v3).bind fun v4 => ((F_X12_f τ (14 : Int32) (10 : Int32)).bind fun v5 => ((F_X12_reg τ v5).bind fun v6 => (if (F_X12_on τ (15 : Int32)) = true then ((F_X12_f τ (4 : Int32) (0 : Int32)).bind fun v9 => ((F_X12_put τ v9 (F_X12_cut (v6 - (v2 * v4)) w1)).bind fun v10 => some (v10))) else ((F_X12_f τ (4 : Int32) (0 : Int32)).bind fun v7 => ((F_X12_put τ v7 (F_X12_cut (v6 + (v2 * v4)) w1)).bind fun v8 => some (v8))))))))))
def F_X12_times (σ : MS)  : Option (MS) := (F_X12_times_c5 σ (F_X12_width σ))
set_option maxHeartbeats 4000000 in
set_option maxRecDepth 100000 in
theorem c_X12_times (l : Launch) (z : Cx) (r : Nat → Nat) (σ : MS) (sz : Nat) (res : MS) (hf : F_X12_times σ = some res) : Met l yX12_times (wsC yX12_times cX12_times 6 none) { frames := 2, cells := 0, slots := 0, locals := 41 } (mPc z (mW z r σ) sz [.ref (r 0)]) (gM z (va_A (mW z r σ) sz) none (mW z r res)) 0 0 (va_A (mW z r σ) sz) := by
  refine mk_m_v (own := RX12) (wf := mW z r) (by decide) rfl sz _ (Nat.le_of_ble_eq_true rfl) (fun p e s m below meth c A H locs Q ls S hK hA hP hD hS hl hend => ?_)
  have hx := S.1
  have hb := S.2.1
  have hown := S.2.2.2.1
  have hts := S.2.2.2.2
  have hl : lv_has ls 6 [(0, .ref (r 0))] := hl
  have J_c5 : ∀ (τ : MS) (w1 : Int32) (H : Heap) (locs : List Loc) (ls : Array Slot), F_X12_times_c5 τ w1 = some res → va_P z.1 vwCl (mW z r τ) H → va_D A (mW z r τ) → va_S A s.heap H locs → lv_has ls 6 [(0, .ref (r 0)), (1, .int w1)] → W p l e { frames := 2, cells := 0, slots := 0, locals := 41 } s m ([.ref (r 0)] : List Value).toArray below meth c H locs 0 0 Q (F0 m 5 ls []) := by
    intro τ w1 H locs ls hf hP hD hS hl
    unfold F_X12_times_c5 at hf
    refine lv_aload_n hx hb dX12_times_5 rfl (lv_at hl 0 rfl) ?_
    refine lv_aload_n hx hb dX12_times_6 rfl (lv_at hl 0 rfl) ?_
    refine lv_bipush (v := 9) hx hb dX12_times_7 (by decide) ?_
    refine lv_iconst (v := 5) hx hb dX12_times_9 (by decide) ?_
    obtain ⟨v1, e_v1, hf⟩ := Option.bind_eq_some_iff.mp hf
    refine k_X12_f (a0 := (9 : Int32)) (a1 := (5 : Int32)) (res := v1) (hres := e_v1) S hK hP tl_X12_121 ⟨Nat.le_of_ble_eq_true rfl, Nat.le_of_ble_eq_true rfl⟩ hl.1 (Nat.le_of_ble_eq_true rfl) dX12_times_10 ?_
    obtain ⟨v2, e_v2, hf⟩ := Option.bind_eq_some_iff.mp hf
    refine k_X12_reg (a0 := v1) (res := v2) (hres := e_v2) S hK hP tl_X12_161 ⟨Nat.le_of_ble_eq_true rfl, Nat.le_of_ble_eq_true rfl⟩ hl.1 (Nat.le_of_ble_eq_true rfl) dX12_times_13 ?_
    refine lv_aload_n hx hb dX12_times_16 rfl (lv_at hl 0 rfl) ?_
    refine lv_aload_n hx hb dX12_times_17 rfl (lv_at hl 0 rfl) ?_
    refine lv_bipush (v := 20) hx hb dX12_times_18 (by decide) ?_
    refine lv_bipush (v := 16) hx hb dX12_times_20 (by decide) ?_
    obtain ⟨v3, e_v3, hf⟩ := Option.bind_eq_some_iff.mp hf
    refine k_X12_f (a0 := (20 : Int32)) (a1 := (16 : Int32)) (res := v3) (hres := e_v3) S hK hP tl_X12_121 ⟨Nat.le_of_ble_eq_true rfl, Nat.le_of_ble_eq_true rfl⟩ hl.1 (Nat.le_of_ble_eq_true rfl) dX12_times_22 ?_
    obtain ⟨v4, e_v4, hf⟩ := Option.bind_eq_some_iff.mp hf
    refine k_X12_reg (a0 := v3) (res := v4) (hres := e_v4) S hK hP tl_X12_161 ⟨Nat.le_of_ble_eq_true rfl, Nat.le_of_ble_eq_true rfl⟩ hl.1 (Nat.le_of_ble_eq_true rfl) dX12_times_25 ?_
    refine lv_lmul hx hb dX12_times_28 ?_
    refine lv_lstore_n (lv' := [(2, .long (v2 * v4)), (0, .ref (r 0)), (1, .int w1)]) hx hb dX12_times_29 rfl hl (by decide) rfl (fun ls hl => ?_)
    refine lv_aload_n hx hb dX12_times_30 rfl (lv_at hl 1 rfl) ?_
    refine lv_aload_n hx hb dX12_times_31 rfl (lv_at hl 1 rfl) ?_
    refine lv_bipush (v := 14) hx hb dX12_times_32 (by decide) ?_
    refine lv_bipush (v := 10) hx hb dX12_times_34 (by decide) ?_
    obtain ⟨v5, e_v5, hf⟩ := Option.bind_eq_some_iff.mp hf
    refine k_X12_f (a0 := (14 : Int32)) (a1 := (10 : Int32)) (res := v5) (hres := e_v5) S hK hP tl_X12_121 ⟨Nat.le_of_ble_eq_true rfl, Nat.le_of_ble_eq_true rfl⟩ hl.1 (Nat.le_of_ble_eq_true rfl) dX12_times_36 ?_
    obtain ⟨v6, e_v6, hf⟩ := Option.bind_eq_some_iff.mp hf
    refine k_X12_reg (a0 := v5) (res := v6) (hres := e_v6) S hK hP tl_X12_161 ⟨Nat.le_of_ble_eq_true rfl, Nat.le_of_ble_eq_true rfl⟩ hl.1 (Nat.le_of_ble_eq_true rfl) dX12_times_39 ?_
    refine lv_lstore (lv' := [(4, .long v6), (2, .long (v2 * v4)), (0, .ref (r 0)), (1, .int w1)]) hx hb dX12_times_42 hl (by decide) rfl (fun ls hl => ?_)
    refine lv_aload_n hx hb dX12_times_44 rfl (lv_at hl 2 rfl) ?_
    refine lv_bipush (v := 15) hx hb dX12_times_45 (by decide) ?_
    refine k_X12_on (a0 := (15 : Int32)) S hK hP tl_X12_118 ⟨Nat.le_of_ble_eq_true rfl, Nat.le_of_ble_eq_true rfl⟩ hl.1 (Nat.le_of_ble_eq_true rfl) dX12_times_47 ?_
    refine gz_eq (tgt := 74) hx hb dX12_times_50 (by decide) (fun c_50 => ?_) (fun c_50 => ?_)
    · rw [if_neg c_50] at hf
      refine lv_aload_n hx hb dX12_times_74 rfl (lv_at hl 2 rfl) ?_
      refine lv_aload_n hx hb dX12_times_75 rfl (lv_at hl 2 rfl) ?_
      refine lv_iconst (v := 4) hx hb dX12_times_76 (by decide) ?_
      refine lv_iconst (v := 0) hx hb dX12_times_77 (by decide) ?_
      obtain ⟨v7, e_v7, hf⟩ := Option.bind_eq_some_iff.mp hf
      refine k_X12_f (a0 := (4 : Int32)) (a1 := (0 : Int32)) (res := v7) (hres := e_v7) S hK hP tl_X12_121 ⟨Nat.le_of_ble_eq_true rfl, Nat.le_of_ble_eq_true rfl⟩ hl.1 (Nat.le_of_ble_eq_true rfl) dX12_times_78 ?_
      refine lv_lload hx hb dX12_times_81 (lv_at hl 0 rfl) ?_
      refine lv_lload_n hx hb dX12_times_83 rfl (lv_at hl 1 rfl) ?_
      refine lv_ladd hx hb dX12_times_84 ?_
      refine lv_iload_n hx hb dX12_times_85 rfl (lv_at hl 3 rfl) ?_
      refine k_X12_cut (a0 := (v6 + (v2 * v4))) (a1 := w1) S tl_X12_138 ⟨Nat.le_of_ble_eq_true rfl, Nat.le_of_ble_eq_true rfl⟩ hl.1 (Nat.le_of_ble_eq_true rfl) dX12_times_86 ?_
      obtain ⟨v8, e_v8, hf⟩ := Option.bind_eq_some_iff.mp hf
      refine k_X12_put (a0 := v7) (a1 := (F_X12_cut (v6 + (v2 * v4)) w1)) (res := v8) (hres := e_v8) S hK hA hP hD hS tl_X12_151 ⟨Nat.le_of_ble_eq_true rfl, Nat.le_of_ble_eq_true rfl⟩ hl.1 (Nat.le_of_ble_eq_true rfl) dX12_times_89 (fun H locs hP hD hS => ?_)
      exact hend v8 H locs 92 ls (Option.some.inj hf) hP hD hS dX12_times_92
    · rw [if_pos c_50] at hf
      refine lv_aload_n hx hb dX12_times_53 rfl (lv_at hl 2 rfl) ?_
      refine lv_aload_n hx hb dX12_times_54 rfl (lv_at hl 2 rfl) ?_
      refine lv_iconst (v := 4) hx hb dX12_times_55 (by decide) ?_
      refine lv_iconst (v := 0) hx hb dX12_times_56 (by decide) ?_
      obtain ⟨v9, e_v9, hf⟩ := Option.bind_eq_some_iff.mp hf
      refine k_X12_f (a0 := (4 : Int32)) (a1 := (0 : Int32)) (res := v9) (hres := e_v9) S hK hP tl_X12_121 ⟨Nat.le_of_ble_eq_true rfl, Nat.le_of_ble_eq_true rfl⟩ hl.1 (Nat.le_of_ble_eq_true rfl) dX12_times_57 ?_
      refine lv_lload hx hb dX12_times_60 (lv_at hl 0 rfl) ?_
      refine lv_lload_n hx hb dX12_times_62 rfl (lv_at hl 1 rfl) ?_
      refine lv_lsub hx hb dX12_times_63 ?_
      refine lv_iload_n hx hb dX12_times_64 rfl (lv_at hl 3 rfl) ?_
      refine k_X12_cut (a0 := (v6 - (v2 * v4))) (a1 := w1) S tl_X12_138 ⟨Nat.le_of_ble_eq_true rfl, Nat.le_of_ble_eq_true rfl⟩ hl.1 (Nat.le_of_ble_eq_true rfl) dX12_times_65 ?_
      obtain ⟨v10, e_v10, hf⟩ := Option.bind_eq_some_iff.mp hf
      refine k_X12_put (a0 := v9) (a1 := (F_X12_cut (v6 - (v2 * v4)) w1)) (res := v10) (hres := e_v10) S hK hA hP hD hS tl_X12_151 ⟨Nat.le_of_ble_eq_true rfl, Nat.le_of_ble_eq_true rfl⟩ hl.1 (Nat.le_of_ble_eq_true rfl) dX12_times_68 (fun H locs hP hD hS => ?_)
      refine lv_goto (tgt := 92) hx hb dX12_times_71 (by decide) ?_
      exact hend v10 H locs 92 ls (Option.some.inj hf) hP hD hS dX12_times_92
  unfold F_X12_times at hf
  refine lv_aload_n hx hb dX12_times_0 rfl (lv_at hl 0 rfl) ?_
  refine k_X12_width S hK hP tl_X12_129 ⟨Nat.le_of_ble_eq_true rfl, Nat.le_of_ble_eq_true rfl⟩ hl.1 (Nat.le_of_ble_eq_true rfl) dX12_times_1 ?_
  refine lv_istore_n (lv' := [(1, .int (F_X12_width σ)), (0, .ref (r 0))]) hx hb dX12_times_4 rfl hl (by decide) rfl (fun ls hl => ?_)
  exact J_c5 σ (F_X12_width σ) H locs ls hf hP hD hS (lv_sub hl [1, 0] rfl)
theorem k_X12_times {p : Program} {l : Launch} {e : Env} {R : Room} {s : State} {m : MethodId} {args : Array Value} {below : List Frame} {meth : Method} {c : Code} {H : Heap} {locs : List Loc} {Q : State → Prop} {cc : ByteArray} {pc : Nat} {ls : Array Slot} {rest : List Value} {own : String} {index nL : Nat} {A : Nat → Prop} {z : Cx} {r : Nat → Nat} {σ : MS} {res : MS} (hres : F_X12_times σ = some res) (S : CallFix p m c cc nL s args tbG own) (hK : va_K z.1 vwCl (cxT z) s) (hA : ∀ q, s.heap.size ≤ q → A q) (hP : va_P z.1 vwCl (mW z r σ) H) (hD : va_D A (mW z r σ)) (hS : va_S A s.heap H locs) (hl : Cond.methodLink own index yX12_times ∈ tbG) (hR : 2 + 1 ≤ R.frames ∧ 8 + (6 + 11) + 41 ≤ R.locals) (hsz : ls.size = nL) (hcat : (rest.map fun v => v.category).sum ≤ 8) (hdg : decode cc pc = .ok (.invokevirtual index, 3)) (kk : ∀ (H : Heap) (locs : List Loc), va_P z.1 vwCl (mW z r res) H → va_D A (mW z r res) → va_S A s.heap H locs → W p l e R s m args below meth c H locs 0 0 Q (F0 m (pc + 3) ls (rest))) : W p l e R s m args below meth c H locs 0 0 Q (F0 m pc ls (.ref (r 0) :: rest)) :=
  km (As := []) (ov := none) (w' := mW z r res) (q0 := 0) (ci := 11) S hK hA hP hD hS (c_X12_times l z r σ H.size _ hres) ⟨tb_cB 0 S.2.2.2.2 tc_X12_times ti_X12 hl rfl rfl (by decide +kernel) hR, S.2.2.2.2 _ tm_X12_times, S.2.2.2.2 _ te_X12_times⟩ rfl rfl rfl rfl hsz rfl hcat hdg kk

theorem dX12_upper_0 : decode cX12_upper 0 = .ok (.lload_n 0, 1) := by decide +kernel
theorem dX12_upper_1 : decode cX12_upper 1 = .ok (.ldc2_w 116, 3) := by decide +kernel
theorem dX12_upper_4 : decode cX12_upper 4 = .ok (.land, 1) := by decide +kernel
theorem dX12_upper_5 : decode cX12_upper 5 = .ok (.lstore 4, 2) := by decide +kernel
theorem dX12_upper_7 : decode cX12_upper 7 = .ok (.lload_n 0, 1) := by decide +kernel
theorem dX12_upper_8 : decode cX12_upper 8 = .ok (.bipush 32, 2) := by decide +kernel
theorem dX12_upper_10 : decode cX12_upper 10 = .ok (.lshr, 1) := by decide +kernel
theorem dX12_upper_11 : decode cX12_upper 11 = .ok (.ldc2_w 116, 3) := by decide +kernel
theorem dX12_upper_14 : decode cX12_upper 14 = .ok (.land, 1) := by decide +kernel
theorem dX12_upper_15 : decode cX12_upper 15 = .ok (.lstore 6, 2) := by decide +kernel
theorem dX12_upper_17 : decode cX12_upper 17 = .ok (.lload_n 2, 1) := by decide +kernel
theorem dX12_upper_18 : decode cX12_upper 18 = .ok (.ldc2_w 116, 3) := by decide +kernel
theorem dX12_upper_21 : decode cX12_upper 21 = .ok (.land, 1) := by decide +kernel
theorem dX12_upper_22 : decode cX12_upper 22 = .ok (.lstore 8, 2) := by decide +kernel
theorem dX12_upper_24 : decode cX12_upper 24 = .ok (.lload_n 2, 1) := by decide +kernel
theorem dX12_upper_25 : decode cX12_upper 25 = .ok (.bipush 32, 2) := by decide +kernel
theorem dX12_upper_27 : decode cX12_upper 27 = .ok (.lshr, 1) := by decide +kernel
theorem dX12_upper_28 : decode cX12_upper 28 = .ok (.ldc2_w 116, 3) := by decide +kernel
theorem dX12_upper_31 : decode cX12_upper 31 = .ok (.land, 1) := by decide +kernel
theorem dX12_upper_32 : decode cX12_upper 32 = .ok (.lstore 10, 2) := by decide +kernel
theorem dX12_upper_34 : decode cX12_upper 34 = .ok (.lload 4, 2) := by decide +kernel
theorem dX12_upper_36 : decode cX12_upper 36 = .ok (.lload 8, 2) := by decide +kernel
theorem dX12_upper_38 : decode cX12_upper 38 = .ok (.lmul, 1) := by decide +kernel
theorem dX12_upper_39 : decode cX12_upper 39 = .ok (.lstore 12, 2) := by decide +kernel
theorem dX12_upper_41 : decode cX12_upper 41 = .ok (.lload 6, 2) := by decide +kernel
theorem dX12_upper_43 : decode cX12_upper 43 = .ok (.lload 8, 2) := by decide +kernel
theorem dX12_upper_45 : decode cX12_upper 45 = .ok (.lmul, 1) := by decide +kernel
theorem dX12_upper_46 : decode cX12_upper 46 = .ok (.lstore 14, 2) := by decide +kernel
theorem dX12_upper_48 : decode cX12_upper 48 = .ok (.lload 4, 2) := by decide +kernel
theorem dX12_upper_50 : decode cX12_upper 50 = .ok (.lload 10, 2) := by decide +kernel
theorem dX12_upper_52 : decode cX12_upper 52 = .ok (.lmul, 1) := by decide +kernel
theorem dX12_upper_53 : decode cX12_upper 53 = .ok (.lstore 16, 2) := by decide +kernel
theorem dX12_upper_55 : decode cX12_upper 55 = .ok (.lload 12, 2) := by decide +kernel
theorem dX12_upper_57 : decode cX12_upper 57 = .ok (.bipush 32, 2) := by decide +kernel
theorem dX12_upper_59 : decode cX12_upper 59 = .ok (.lshr, 1) := by decide +kernel
theorem dX12_upper_60 : decode cX12_upper 60 = .ok (.ldc2_w 116, 3) := by decide +kernel
theorem dX12_upper_63 : decode cX12_upper 63 = .ok (.land, 1) := by decide +kernel
theorem dX12_upper_64 : decode cX12_upper 64 = .ok (.lload 14, 2) := by decide +kernel
theorem dX12_upper_66 : decode cX12_upper 66 = .ok (.ldc2_w 116, 3) := by decide +kernel
theorem dX12_upper_69 : decode cX12_upper 69 = .ok (.land, 1) := by decide +kernel
theorem dX12_upper_70 : decode cX12_upper 70 = .ok (.ladd, 1) := by decide +kernel
theorem dX12_upper_71 : decode cX12_upper 71 = .ok (.lload 16, 2) := by decide +kernel
theorem dX12_upper_73 : decode cX12_upper 73 = .ok (.ldc2_w 116, 3) := by decide +kernel
theorem dX12_upper_76 : decode cX12_upper 76 = .ok (.land, 1) := by decide +kernel
theorem dX12_upper_77 : decode cX12_upper 77 = .ok (.ladd, 1) := by decide +kernel
theorem dX12_upper_78 : decode cX12_upper 78 = .ok (.lstore 18, 2) := by decide +kernel
theorem dX12_upper_80 : decode cX12_upper 80 = .ok (.lload 6, 2) := by decide +kernel
theorem dX12_upper_82 : decode cX12_upper 82 = .ok (.lload 10, 2) := by decide +kernel
theorem dX12_upper_84 : decode cX12_upper 84 = .ok (.lmul, 1) := by decide +kernel
theorem dX12_upper_85 : decode cX12_upper 85 = .ok (.lload 14, 2) := by decide +kernel
theorem dX12_upper_87 : decode cX12_upper 87 = .ok (.bipush 32, 2) := by decide +kernel
theorem dX12_upper_89 : decode cX12_upper 89 = .ok (.lshr, 1) := by decide +kernel
theorem dX12_upper_90 : decode cX12_upper 90 = .ok (.ldc2_w 116, 3) := by decide +kernel
theorem dX12_upper_93 : decode cX12_upper 93 = .ok (.land, 1) := by decide +kernel
theorem dX12_upper_94 : decode cX12_upper 94 = .ok (.ladd, 1) := by decide +kernel
theorem dX12_upper_95 : decode cX12_upper 95 = .ok (.lload 16, 2) := by decide +kernel
theorem dX12_upper_97 : decode cX12_upper 97 = .ok (.bipush 32, 2) := by decide +kernel
theorem dX12_upper_99 : decode cX12_upper 99 = .ok (.lshr, 1) := by decide +kernel
theorem dX12_upper_100 : decode cX12_upper 100 = .ok (.ldc2_w 116, 3) := by decide +kernel
theorem dX12_upper_103 : decode cX12_upper 103 = .ok (.land, 1) := by decide +kernel
theorem dX12_upper_104 : decode cX12_upper 104 = .ok (.ladd, 1) := by decide +kernel
theorem dX12_upper_105 : decode cX12_upper 105 = .ok (.lload 18, 2) := by decide +kernel
theorem dX12_upper_107 : decode cX12_upper 107 = .ok (.bipush 32, 2) := by decide +kernel
theorem dX12_upper_109 : decode cX12_upper 109 = .ok (.lshr, 1) := by decide +kernel
theorem dX12_upper_110 : decode cX12_upper 110 = .ok (.ldc2_w 116, 3) := by decide +kernel
theorem dX12_upper_113 : decode cX12_upper 113 = .ok (.land, 1) := by decide +kernel
theorem dX12_upper_114 : decode cX12_upper 114 = .ok (.ladd, 1) := by decide +kernel
theorem dX12_upper_115 : decode cX12_upper 115 = .ok (.lreturn, 1) := by decide +kernel
def F_X12_upper_c34 (a0 : Int64) (a1 : Int64) (w4 : Int64) (w6 : Int64) (w8 : Int64) (w10 : Int64) : Int64 := ((((w6 * w10) + ((j_lshr (w6 * w8) (32 : Int32)) &&& (4294967295 : Int64))) + ((j_lshr (w4 * w10) (32 : Int32)) &&& (4294967295 : Int64))) + ((j_lshr ((((j_lshr (w4 * w8) (32 : Int32)) &&& (4294967295 : Int64)) + ((w6 * w8) &&& (4294967295 : Int64))) + ((w4 * w10) &&& (4294967295 : Int64))) (32 : Int32)) &&& (4294967295 : Int64)))
def F_X12_upper_c24 (a0 : Int64) (a1 : Int64) (w4 : Int64) (w6 : Int64) (w8 : Int64) : Int64 := (F_X12_upper_c34 a0 a1 w4 w6 w8 ((j_lshr a1 (32 : Int32)) &&& (4294967295 : Int64)))
def F_X12_upper_c17 (a0 : Int64) (a1 : Int64) (w4 : Int64) (w6 : Int64) : Int64 := (F_X12_upper_c24 a0 a1 w4 w6 (a1 &&& (4294967295 : Int64)))
def F_X12_upper_c7 (a0 : Int64) (a1 : Int64) (w4 : Int64) : Int64 := (F_X12_upper_c17 a0 a1 w4 ((j_lshr a0 (32 : Int32)) &&& (4294967295 : Int64)))
def F_X12_upper (a0 : Int64) (a1 : Int64) : Int64 := (F_X12_upper_c7 a0 a1 (a0 &&& (4294967295 : Int64)))
set_option maxHeartbeats 4000000 in
set_option maxRecDepth 100000 in
theorem c_X12_upper (l : Launch) (a0 : Int64) (a1 : Int64) (res : Int64) (hf : F_X12_upper a0 a1 = res) : Met l yX12_upper (wsC yX12_upper cX12_upper 20 (some .long)) { frames := 0, cells := 0, slots := 0, locals := 0 } (fun v _ => v = ([.long a0, .long a1] : List Value).toArray) (gS (some (.long res))) 0 0 (fun _ => False) := by
  refine mk_s_l (own := RX12) (by decide) rfl _ (Nat.le_of_ble_eq_true rfl) (fun p e s m below meth c H locs Q ls S hl hend => ?_)
  have hx := S.1
  have hb := S.2.1
  have hown := S.2.2.2.1
  have hts := S.2.2.2.2
  have hl : lv_has ls 20 [(0, .long a0), (2, .long a1)] := hl
  have J_c34 : ∀ (w4 : Int64) (w6 : Int64) (w8 : Int64) (w10 : Int64) (ls : Array Slot), F_X12_upper_c34 a0 a1 w4 w6 w8 w10 = res → lv_has ls 20 [(4, .long w4), (6, .long w6), (8, .long w8), (10, .long w10)] → W p l e { frames := 0, cells := 0, slots := 0, locals := 0 } s m ([.long a0, .long a1] : List Value).toArray below meth c H locs 0 0 Q (F0 m 34 ls []) := by
    intro w4 w6 w8 w10 ls hf hl
    unfold F_X12_upper_c34 at hf
    refine lv_lload hx hb dX12_upper_34 (lv_at hl 0 rfl) ?_
    refine lv_lload hx hb dX12_upper_36 (lv_at hl 2 rfl) ?_
    refine lv_lmul hx hb dX12_upper_38 ?_
    refine lv_lstore (lv' := [(12, .long (w4 * w8)), (4, .long w4), (6, .long w6), (8, .long w8), (10, .long w10)]) hx hb dX12_upper_39 hl (by decide) rfl (fun ls hl => ?_)
    refine lv_lload hx hb dX12_upper_41 (lv_at hl 2 rfl) ?_
    refine lv_lload hx hb dX12_upper_43 (lv_at hl 3 rfl) ?_
    refine lv_lmul hx hb dX12_upper_45 ?_
    refine lv_lstore (lv' := [(14, .long (w6 * w8)), (12, .long (w4 * w8)), (4, .long w4), (6, .long w6), (8, .long w8), (10, .long w10)]) hx hb dX12_upper_46 hl (by decide) rfl (fun ls hl => ?_)
    refine lv_lload hx hb dX12_upper_48 (lv_at hl 2 rfl) ?_
    refine lv_lload hx hb dX12_upper_50 (lv_at hl 5 rfl) ?_
    refine lv_lmul hx hb dX12_upper_52 ?_
    refine lv_lstore (lv' := [(16, .long (w4 * w10)), (14, .long (w6 * w8)), (12, .long (w4 * w8)), (4, .long w4), (6, .long w6), (8, .long w8), (10, .long w10)]) hx hb dX12_upper_53 hl (by decide) rfl (fun ls hl => ?_)
    refine lv_lload hx hb dX12_upper_55 (lv_at hl 2 rfl) ?_
    refine lv_bipush (v := 32) hx hb dX12_upper_57 (by decide) ?_
    refine lv_lshr (v := (j_lshr (w4 * w8) (32 : Int32))) hx hb dX12_upper_59 rfl ?_
    refine lv_ldc2 (v := 4294967295) hx hb hown (hts _ tk_X12_116) dX12_upper_60 ?_
    refine lv_land hx hb dX12_upper_63 ?_
    refine lv_lload hx hb dX12_upper_64 (lv_at hl 1 rfl) ?_
    refine lv_ldc2 (v := 4294967295) hx hb hown (hts _ tk_X12_116) dX12_upper_66 ?_
    refine lv_land hx hb dX12_upper_69 ?_
    refine lv_ladd hx hb dX12_upper_70 ?_
    refine lv_lload hx hb dX12_upper_71 (lv_at hl 0 rfl) ?_
    refine lv_ldc2 (v := 4294967295) hx hb hown (hts _ tk_X12_116) dX12_upper_73 ?_
    refine lv_land hx hb dX12_upper_76 ?_
    refine lv_ladd hx hb dX12_upper_77 ?_
    refine lv_lstore (lv' := [(18, .long ((((j_lshr (w4 * w8) (32 : Int32)) &&& (4294967295 : Int64)) + ((w6 * w8) &&& (4294967295 : Int64))) + ((w4 * w10) &&& (4294967295 : Int64)))), (16, .long (w4 * w10)), (14, .long (w6 * w8)), (12, .long (w4 * w8)), (4, .long w4), (6, .long w6), (8, .long w8), (10, .long w10)]) hx hb dX12_upper_78 hl (by decide) rfl (fun ls hl => ?_)
    refine lv_lload hx hb dX12_upper_80 (lv_at hl 5 rfl) ?_
    refine lv_lload hx hb dX12_upper_82 (lv_at hl 7 rfl) ?_
    refine lv_lmul hx hb dX12_upper_84 ?_
    refine lv_lload hx hb dX12_upper_85 (lv_at hl 2 rfl) ?_
    refine lv_bipush (v := 32) hx hb dX12_upper_87 (by decide) ?_
    refine lv_lshr (v := (j_lshr (w6 * w8) (32 : Int32))) hx hb dX12_upper_89 rfl ?_
    refine lv_ldc2 (v := 4294967295) hx hb hown (hts _ tk_X12_116) dX12_upper_90 ?_
    refine lv_land hx hb dX12_upper_93 ?_
    refine lv_ladd hx hb dX12_upper_94 ?_
    refine lv_lload hx hb dX12_upper_95 (lv_at hl 1 rfl) ?_
    refine lv_bipush (v := 32) hx hb dX12_upper_97 (by decide) ?_
    refine lv_lshr (v := (j_lshr (w4 * w10) (32 : Int32))) hx hb dX12_upper_99 rfl ?_
    refine lv_ldc2 (v := 4294967295) hx hb hown (hts _ tk_X12_116) dX12_upper_100 ?_
    refine lv_land hx hb dX12_upper_103 ?_
    refine lv_ladd hx hb dX12_upper_104 ?_
    refine lv_lload hx hb dX12_upper_105 (lv_at hl 0 rfl) ?_
    refine lv_bipush (v := 32) hx hb dX12_upper_107 (by decide) ?_
    refine lv_lshr (v := (j_lshr ((((j_lshr (w4 * w8) (32 : Int32)) &&& (4294967295 : Int64)) + ((w6 * w8) &&& (4294967295 : Int64))) + ((w4 * w10) &&& (4294967295 : Int64))) (32 : Int32))) hx hb dX12_upper_109 rfl ?_
    refine lv_ldc2 (v := 4294967295) hx hb hown (hts _ tk_X12_116) dX12_upper_110 ?_
    refine lv_land hx hb dX12_upper_113 ?_
    refine lv_ladd hx hb dX12_upper_114 ?_
    exact hend ((((w6 * w10) + ((j_lshr (w6 * w8) (32 : Int32)) &&& (4294967295 : Int64))) + ((j_lshr (w4 * w10) (32 : Int32)) &&& (4294967295 : Int64))) + ((j_lshr ((((j_lshr (w4 * w8) (32 : Int32)) &&& (4294967295 : Int64)) + ((w6 * w8) &&& (4294967295 : Int64))) + ((w4 * w10) &&& (4294967295 : Int64))) (32 : Int32)) &&& (4294967295 : Int64))) 115 ls hf dX12_upper_115
  have J_c24 : ∀ (w4 : Int64) (w6 : Int64) (w8 : Int64) (ls : Array Slot), F_X12_upper_c24 a0 a1 w4 w6 w8 = res → lv_has ls 20 [(2, .long a1), (4, .long w4), (6, .long w6), (8, .long w8)] → W p l e { frames := 0, cells := 0, slots := 0, locals := 0 } s m ([.long a0, .long a1] : List Value).toArray below meth c H locs 0 0 Q (F0 m 24 ls []) := by
    intro w4 w6 w8 ls hf hl
    unfold F_X12_upper_c24 at hf
    refine lv_lload_n hx hb dX12_upper_24 rfl (lv_at hl 0 rfl) ?_
    refine lv_bipush (v := 32) hx hb dX12_upper_25 (by decide) ?_
    refine lv_lshr (v := (j_lshr a1 (32 : Int32))) hx hb dX12_upper_27 rfl ?_
    refine lv_ldc2 (v := 4294967295) hx hb hown (hts _ tk_X12_116) dX12_upper_28 ?_
    refine lv_land hx hb dX12_upper_31 ?_
    refine lv_lstore (lv' := [(10, .long ((j_lshr a1 (32 : Int32)) &&& (4294967295 : Int64))), (2, .long a1), (4, .long w4), (6, .long w6), (8, .long w8)]) hx hb dX12_upper_32 hl (by decide) rfl (fun ls hl => ?_)
    exact J_c34 w4 w6 w8 ((j_lshr a1 (32 : Int32)) &&& (4294967295 : Int64)) ls hf (lv_sub hl [2, 3, 4, 0] rfl)
  have J_c17 : ∀ (w4 : Int64) (w6 : Int64) (ls : Array Slot), F_X12_upper_c17 a0 a1 w4 w6 = res → lv_has ls 20 [(2, .long a1), (4, .long w4), (6, .long w6)] → W p l e { frames := 0, cells := 0, slots := 0, locals := 0 } s m ([.long a0, .long a1] : List Value).toArray below meth c H locs 0 0 Q (F0 m 17 ls []) := by
    intro w4 w6 ls hf hl
    unfold F_X12_upper_c17 at hf
    refine lv_lload_n hx hb dX12_upper_17 rfl (lv_at hl 0 rfl) ?_
    refine lv_ldc2 (v := 4294967295) hx hb hown (hts _ tk_X12_116) dX12_upper_18 ?_
    refine lv_land hx hb dX12_upper_21 ?_
    refine lv_lstore (lv' := [(8, .long (a1 &&& (4294967295 : Int64))), (2, .long a1), (4, .long w4), (6, .long w6)]) hx hb dX12_upper_22 hl (by decide) rfl (fun ls hl => ?_)
    exact J_c24 w4 w6 (a1 &&& (4294967295 : Int64)) ls hf (lv_sub hl [1, 2, 3, 0] rfl)
  have J_c7 : ∀ (w4 : Int64) (ls : Array Slot), F_X12_upper_c7 a0 a1 w4 = res → lv_has ls 20 [(0, .long a0), (2, .long a1), (4, .long w4)] → W p l e { frames := 0, cells := 0, slots := 0, locals := 0 } s m ([.long a0, .long a1] : List Value).toArray below meth c H locs 0 0 Q (F0 m 7 ls []) := by
    intro w4 ls hf hl
    unfold F_X12_upper_c7 at hf
    refine lv_lload_n hx hb dX12_upper_7 rfl (lv_at hl 0 rfl) ?_
    refine lv_bipush (v := 32) hx hb dX12_upper_8 (by decide) ?_
    refine lv_lshr (v := (j_lshr a0 (32 : Int32))) hx hb dX12_upper_10 rfl ?_
    refine lv_ldc2 (v := 4294967295) hx hb hown (hts _ tk_X12_116) dX12_upper_11 ?_
    refine lv_land hx hb dX12_upper_14 ?_
    refine lv_lstore (lv' := [(6, .long ((j_lshr a0 (32 : Int32)) &&& (4294967295 : Int64))), (0, .long a0), (2, .long a1), (4, .long w4)]) hx hb dX12_upper_15 hl (by decide) rfl (fun ls hl => ?_)
    exact J_c17 w4 ((j_lshr a0 (32 : Int32)) &&& (4294967295 : Int64)) ls hf (lv_sub hl [2, 3, 0] rfl)
  unfold F_X12_upper at hf
  refine lv_lload_n hx hb dX12_upper_0 rfl (lv_at hl 0 rfl) ?_
  refine lv_ldc2 (v := 4294967295) hx hb hown (hts _ tk_X12_116) dX12_upper_1 ?_
  refine lv_land hx hb dX12_upper_4 ?_
  refine lv_lstore (lv' := [(4, .long (a0 &&& (4294967295 : Int64))), (0, .long a0), (2, .long a1)]) hx hb dX12_upper_5 hl (by decide) rfl (fun ls hl => ?_)
  exact J_c7 (a0 &&& (4294967295 : Int64)) ls hf (lv_sub hl [1, 2, 0] rfl)
theorem k_X12_upper {p : Program} {l : Launch} {e : Env} {R : Room} {s : State} {m : MethodId} {args : Array Value} {below : List Frame} {meth : Method} {c : Code} {H : Heap} {locs : List Loc} {Q : State → Prop} {cc : ByteArray} {pc : Nat} {ls : Array Slot} {rest : List Value} {own : String} {index nL : Nat} {a0 : Int64} {a1 : Int64} (S : CallFix p m c cc nL s args tbG own) (hl : Cond.methodLink own index yX12_upper ∈ tbG) (hR : 0 + 1 ≤ R.frames ∧ 8 + (20 + 11) + 0 ≤ R.locals) (hsz : ls.size = nL) (hcat : (rest.map fun v => v.category).sum ≤ 8) (hdg : decode cc pc = .ok (.invokestatic index, 3)) (kk : W p l e R s m args below meth c H locs 0 0 Q (F0 m (pc + 3) ls (.long (F_X12_upper a0 a1) :: rest))) : W p l e R s m args below meth c H locs 0 0 Q (F0 m pc ls (.long a1 :: .long a0 :: rest)) :=
  ks (As := [.long a0, .long a1]) (ov := some (.long (F_X12_upper a0 a1))) S (c_X12_upper l a0 a1 _ rfl) ⟨tb_cB 2 S.2.2.2.2 tc_X12_upper ti_X12 hl rfl rfl (by decide +kernel) hR, S.2.2.2.2 _ ts_X12_upper⟩ rfl hsz rfl hcat hdg kk

theorem dX12_highOf_0 : decode cX12_highOf 0 = .ok (.aload_n 0, 1) := by decide +kernel
theorem dX12_highOf_1 : decode cX12_highOf 1 = .ok (.aload_n 0, 1) := by decide +kernel
theorem dX12_highOf_2 : decode cX12_highOf 2 = .ok (.bipush 9, 2) := by decide +kernel
theorem dX12_highOf_4 : decode cX12_highOf 4 = .ok (.iconst 5, 1) := by decide +kernel
theorem dX12_highOf_5 : decode cX12_highOf 5 = .ok (.invokevirtual 121, 3) := by decide +kernel
theorem dX12_highOf_8 : decode cX12_highOf 8 = .ok (.invokevirtual 161, 3) := by decide +kernel
theorem dX12_highOf_11 : decode cX12_highOf 11 = .ok (.lstore_n 1, 1) := by decide +kernel
theorem dX12_highOf_12 : decode cX12_highOf 12 = .ok (.aload_n 0, 1) := by decide +kernel
theorem dX12_highOf_13 : decode cX12_highOf 13 = .ok (.aload_n 0, 1) := by decide +kernel
theorem dX12_highOf_14 : decode cX12_highOf 14 = .ok (.bipush 20, 2) := by decide +kernel
theorem dX12_highOf_16 : decode cX12_highOf 16 = .ok (.bipush 16, 2) := by decide +kernel
theorem dX12_highOf_18 : decode cX12_highOf 18 = .ok (.invokevirtual 121, 3) := by decide +kernel
theorem dX12_highOf_21 : decode cX12_highOf 21 = .ok (.invokevirtual 161, 3) := by decide +kernel
theorem dX12_highOf_24 : decode cX12_highOf 24 = .ok (.lstore_n 3, 1) := by decide +kernel
theorem dX12_highOf_25 : decode cX12_highOf 25 = .ok (.lload_n 1, 1) := by decide +kernel
theorem dX12_highOf_26 : decode cX12_highOf 26 = .ok (.lload_n 3, 1) := by decide +kernel
theorem dX12_highOf_27 : decode cX12_highOf 27 = .ok (.invokestatic 179, 3) := by decide +kernel
theorem dX12_highOf_30 : decode cX12_highOf 30 = .ok (.lstore 5, 2) := by decide +kernel
theorem dX12_highOf_32 : decode cX12_highOf 32 = .ok (.aload_n 0, 1) := by decide +kernel
theorem dX12_highOf_33 : decode cX12_highOf 33 = .ok (.bipush 23, 2) := by decide +kernel
theorem dX12_highOf_35 : decode cX12_highOf 35 = .ok (.invokevirtual 118, 3) := by decide +kernel
theorem dX12_highOf_38 : decode cX12_highOf 38 = .ok (.ifCond .ne 27, 3) := by decide +kernel
theorem dX12_highOf_41 : decode cX12_highOf 41 = .ok (.lload_n 1, 1) := by decide +kernel
theorem dX12_highOf_42 : decode cX12_highOf 42 = .ok (.lconst 0, 1) := by decide +kernel
theorem dX12_highOf_43 : decode cX12_highOf 43 = .ok (.lcmp, 1) := by decide +kernel
theorem dX12_highOf_44 : decode cX12_highOf 44 = .ok (.ifCond .ge 9, 3) := by decide +kernel
theorem dX12_highOf_47 : decode cX12_highOf 47 = .ok (.lload 5, 2) := by decide +kernel
theorem dX12_highOf_49 : decode cX12_highOf 49 = .ok (.lload_n 3, 1) := by decide +kernel
theorem dX12_highOf_50 : decode cX12_highOf 50 = .ok (.lsub, 1) := by decide +kernel
theorem dX12_highOf_51 : decode cX12_highOf 51 = .ok (.lstore 5, 2) := by decide +kernel
theorem dX12_highOf_53 : decode cX12_highOf 53 = .ok (.lload_n 3, 1) := by decide +kernel
theorem dX12_highOf_54 : decode cX12_highOf 54 = .ok (.lconst 0, 1) := by decide +kernel
theorem dX12_highOf_55 : decode cX12_highOf 55 = .ok (.lcmp, 1) := by decide +kernel
theorem dX12_highOf_56 : decode cX12_highOf 56 = .ok (.ifCond .ge 9, 3) := by decide +kernel
theorem dX12_highOf_59 : decode cX12_highOf 59 = .ok (.lload 5, 2) := by decide +kernel
theorem dX12_highOf_61 : decode cX12_highOf 61 = .ok (.lload_n 1, 1) := by decide +kernel
theorem dX12_highOf_62 : decode cX12_highOf 62 = .ok (.lsub, 1) := by decide +kernel
theorem dX12_highOf_63 : decode cX12_highOf 63 = .ok (.lstore 5, 2) := by decide +kernel
theorem dX12_highOf_65 : decode cX12_highOf 65 = .ok (.aload_n 0, 1) := by decide +kernel
theorem dX12_highOf_66 : decode cX12_highOf 66 = .ok (.aload_n 0, 1) := by decide +kernel
theorem dX12_highOf_67 : decode cX12_highOf 67 = .ok (.iconst 4, 1) := by decide +kernel
theorem dX12_highOf_68 : decode cX12_highOf 68 = .ok (.iconst 0, 1) := by decide +kernel
theorem dX12_highOf_69 : decode cX12_highOf 69 = .ok (.invokevirtual 121, 3) := by decide +kernel
theorem dX12_highOf_72 : decode cX12_highOf 72 = .ok (.lload 5, 2) := by decide +kernel
theorem dX12_highOf_74 : decode cX12_highOf 74 = .ok (.invokevirtual 151, 3) := by decide +kernel
theorem dX12_highOf_77 : decode cX12_highOf 77 = .ok (.return_, 1) := by decide +kernel
def F_X12_highOf_c65 (τ : MS) (w5 : Int64) : Option (MS) := ((F_X12_f τ (4 : Int32) (0 : Int32)).bind fun v5 => ((F_X12_put τ v5 w5).bind fun v6 => some (v6)))
def F_X12_highOf_c53 (τ : MS) (w1 : Int64) (w3 : Int64) (w5 : Int64) : Option (MS) := (if (0 : Int64) ≤ w3 then (F_X12_highOf_c65 τ w5) else (F_X12_highOf_c65 τ (w5 - w1)))
def F_X12_highOf_c32 (τ : MS) (w1 : Int64) (w3 : Int64) (w5 : Int64) : Option (MS) := (if (F_X12_on τ (23 : Int32)) = true then (F_X12_highOf_c65 τ w5) else (if (0 : Int64) ≤ w1 then (F_X12_highOf_c53 τ w1 w3 w5) else (F_X12_highOf_c53 τ w1 w3 (w5 - w3))))
def F_X12_highOf (σ : MS)  : Option (MS) := ((F_X12_f σ (9 : Int32) (5 : Int32)).bind fun v1 => ((F_X12_reg σ v1).bind fun v2 => ((F_X12_f σ (20 : Int32) (16 : Int32)).bind fun v3 => ((F_X12_reg σ v3).bind fun v4 => (F_X12_highOf_c32 σ v2 v4 (F_X12_upper v2 v4))))))
set_option maxHeartbeats 4000000 in
set_option maxRecDepth 100000 in
theorem c_X12_highOf (l : Launch) (z : Cx) (r : Nat → Nat) (σ : MS) (sz : Nat) (res : MS) (hf : F_X12_highOf σ = some res) : Met l yX12_highOf (wsC yX12_highOf cX12_highOf 7 none) { frames := 1, cells := 0, slots := 0, locals := 39 } (mPc z (mW z r σ) sz [.ref (r 0)]) (gM z (va_A (mW z r σ) sz) none (mW z r res)) 0 0 (va_A (mW z r σ) sz) := by
  refine mk_m_v (own := RX12) (wf := mW z r) (by decide) rfl sz _ (Nat.le_of_ble_eq_true rfl) (fun p e s m below meth c A H locs Q ls S hK hA hP hD hS hl hend => ?_)
  have hx := S.1
  have hb := S.2.1
  have hown := S.2.2.2.1
  have hts := S.2.2.2.2
  have hl : lv_has ls 7 [(0, .ref (r 0))] := hl
  have J_c65 : ∀ (τ : MS) (w5 : Int64) (H : Heap) (locs : List Loc) (ls : Array Slot), F_X12_highOf_c65 τ w5 = some res → va_P z.1 vwCl (mW z r τ) H → va_D A (mW z r τ) → va_S A s.heap H locs → lv_has ls 7 [(0, .ref (r 0)), (5, .long w5)] → W p l e { frames := 1, cells := 0, slots := 0, locals := 39 } s m ([.ref (r 0)] : List Value).toArray below meth c H locs 0 0 Q (F0 m 65 ls []) := by
    intro τ w5 H locs ls hf hP hD hS hl
    unfold F_X12_highOf_c65 at hf
    refine lv_aload_n hx hb dX12_highOf_65 rfl (lv_at hl 0 rfl) ?_
    refine lv_aload_n hx hb dX12_highOf_66 rfl (lv_at hl 0 rfl) ?_
    refine lv_iconst (v := 4) hx hb dX12_highOf_67 (by decide) ?_
    refine lv_iconst (v := 0) hx hb dX12_highOf_68 (by decide) ?_
    obtain ⟨v5, e_v5, hf⟩ := Option.bind_eq_some_iff.mp hf
    refine k_X12_f (a0 := (4 : Int32)) (a1 := (0 : Int32)) (res := v5) (hres := e_v5) S hK hP tl_X12_121 ⟨Nat.le_of_ble_eq_true rfl, Nat.le_of_ble_eq_true rfl⟩ hl.1 (Nat.le_of_ble_eq_true rfl) dX12_highOf_69 ?_
    refine lv_lload hx hb dX12_highOf_72 (lv_at hl 1 rfl) ?_
    obtain ⟨v6, e_v6, hf⟩ := Option.bind_eq_some_iff.mp hf
    refine k_X12_put (a0 := v5) (a1 := w5) (res := v6) (hres := e_v6) S hK hA hP hD hS tl_X12_151 ⟨Nat.le_of_ble_eq_true rfl, Nat.le_of_ble_eq_true rfl⟩ hl.1 (Nat.le_of_ble_eq_true rfl) dX12_highOf_74 (fun H locs hP hD hS => ?_)
    exact hend v6 H locs 77 ls (Option.some.inj hf) hP hD hS dX12_highOf_77
  have J_c53 : ∀ (τ : MS) (w1 : Int64) (w3 : Int64) (w5 : Int64) (H : Heap) (locs : List Loc) (ls : Array Slot), F_X12_highOf_c53 τ w1 w3 w5 = some res → va_P z.1 vwCl (mW z r τ) H → va_D A (mW z r τ) → va_S A s.heap H locs → lv_has ls 7 [(0, .ref (r 0)), (1, .long w1), (3, .long w3), (5, .long w5)] → W p l e { frames := 1, cells := 0, slots := 0, locals := 39 } s m ([.ref (r 0)] : List Value).toArray below meth c H locs 0 0 Q (F0 m 53 ls []) := by
    intro τ w1 w3 w5 H locs ls hf hP hD hS hl
    unfold F_X12_highOf_c53 at hf
    refine lv_lload_n hx hb dX12_highOf_53 rfl (lv_at hl 2 rfl) ?_
    refine lv_lconst (v := 0) hx hb dX12_highOf_54 (by decide) ?_
    refine gl_ge (tgt := 65) hx hb dX12_highOf_55 dX12_highOf_56 (by decide) (fun c_55 => ?_) (fun c_55 => ?_)
    · rw [if_pos c_55] at hf
      exact J_c65 τ w5 H locs ls hf hP hD hS (lv_sub hl [0, 3] rfl)
    · rw [if_neg c_55] at hf
      refine lv_lload hx hb dX12_highOf_59 (lv_at hl 3 rfl) ?_
      refine lv_lload_n hx hb dX12_highOf_61 rfl (lv_at hl 1 rfl) ?_
      refine lv_lsub hx hb dX12_highOf_62 ?_
      refine lv_lstore (lv' := [(5, .long (w5 - w1)), (0, .ref (r 0)), (1, .long w1), (3, .long w3)]) hx hb dX12_highOf_63 hl (by decide) rfl (fun ls hl => ?_)
      exact J_c65 τ (w5 - w1) H locs ls hf hP hD hS (lv_sub hl [1, 0] rfl)
  have J_c32 : ∀ (τ : MS) (w1 : Int64) (w3 : Int64) (w5 : Int64) (H : Heap) (locs : List Loc) (ls : Array Slot), F_X12_highOf_c32 τ w1 w3 w5 = some res → va_P z.1 vwCl (mW z r τ) H → va_D A (mW z r τ) → va_S A s.heap H locs → lv_has ls 7 [(0, .ref (r 0)), (1, .long w1), (3, .long w3), (5, .long w5)] → W p l e { frames := 1, cells := 0, slots := 0, locals := 39 } s m ([.ref (r 0)] : List Value).toArray below meth c H locs 0 0 Q (F0 m 32 ls []) := by
    intro τ w1 w3 w5 H locs ls hf hP hD hS hl
    unfold F_X12_highOf_c32 at hf
    refine lv_aload_n hx hb dX12_highOf_32 rfl (lv_at hl 0 rfl) ?_
    refine lv_bipush (v := 23) hx hb dX12_highOf_33 (by decide) ?_
    refine k_X12_on (a0 := (23 : Int32)) S hK hP tl_X12_118 ⟨Nat.le_of_ble_eq_true rfl, Nat.le_of_ble_eq_true rfl⟩ hl.1 (Nat.le_of_ble_eq_true rfl) dX12_highOf_35 ?_
    refine gz_ne (tgt := 65) hx hb dX12_highOf_38 (by decide) (fun c_38 => ?_) (fun c_38 => ?_)
    · rw [if_pos c_38] at hf
      exact J_c65 τ w5 H locs ls hf hP hD hS (lv_sub hl [0, 3] rfl)
    · rw [if_neg c_38] at hf
      refine lv_lload_n hx hb dX12_highOf_41 rfl (lv_at hl 1 rfl) ?_
      refine lv_lconst (v := 0) hx hb dX12_highOf_42 (by decide) ?_
      refine gl_ge (tgt := 53) hx hb dX12_highOf_43 dX12_highOf_44 (by decide) (fun c_43 => ?_) (fun c_43 => ?_)
      · rw [if_pos c_43] at hf
        exact J_c53 τ w1 w3 w5 H locs ls hf hP hD hS (lv_sub hl [0, 1, 2, 3] rfl)
      · rw [if_neg c_43] at hf
        refine lv_lload hx hb dX12_highOf_47 (lv_at hl 3 rfl) ?_
        refine lv_lload_n hx hb dX12_highOf_49 rfl (lv_at hl 2 rfl) ?_
        refine lv_lsub hx hb dX12_highOf_50 ?_
        refine lv_lstore (lv' := [(5, .long (w5 - w3)), (0, .ref (r 0)), (1, .long w1), (3, .long w3)]) hx hb dX12_highOf_51 hl (by decide) rfl (fun ls hl => ?_)
        exact J_c53 τ w1 w3 (w5 - w3) H locs ls hf hP hD hS (lv_sub hl [1, 2, 3, 0] rfl)
  unfold F_X12_highOf at hf
  refine lv_aload_n hx hb dX12_highOf_0 rfl (lv_at hl 0 rfl) ?_
  refine lv_aload_n hx hb dX12_highOf_1 rfl (lv_at hl 0 rfl) ?_
  refine lv_bipush (v := 9) hx hb dX12_highOf_2 (by decide) ?_
  refine lv_iconst (v := 5) hx hb dX12_highOf_4 (by decide) ?_
  obtain ⟨v1, e_v1, hf⟩ := Option.bind_eq_some_iff.mp hf
  refine k_X12_f (a0 := (9 : Int32)) (a1 := (5 : Int32)) (res := v1) (hres := e_v1) S hK hP tl_X12_121 ⟨Nat.le_of_ble_eq_true rfl, Nat.le_of_ble_eq_true rfl⟩ hl.1 (Nat.le_of_ble_eq_true rfl) dX12_highOf_5 ?_
  obtain ⟨v2, e_v2, hf⟩ := Option.bind_eq_some_iff.mp hf
  refine k_X12_reg (a0 := v1) (res := v2) (hres := e_v2) S hK hP tl_X12_161 ⟨Nat.le_of_ble_eq_true rfl, Nat.le_of_ble_eq_true rfl⟩ hl.1 (Nat.le_of_ble_eq_true rfl) dX12_highOf_8 ?_
  refine lv_lstore_n (lv' := [(1, .long v2), (0, .ref (r 0))]) hx hb dX12_highOf_11 rfl hl (by decide) rfl (fun ls hl => ?_)
  refine lv_aload_n hx hb dX12_highOf_12 rfl (lv_at hl 1 rfl) ?_
  refine lv_aload_n hx hb dX12_highOf_13 rfl (lv_at hl 1 rfl) ?_
  refine lv_bipush (v := 20) hx hb dX12_highOf_14 (by decide) ?_
  refine lv_bipush (v := 16) hx hb dX12_highOf_16 (by decide) ?_
  obtain ⟨v3, e_v3, hf⟩ := Option.bind_eq_some_iff.mp hf
  refine k_X12_f (a0 := (20 : Int32)) (a1 := (16 : Int32)) (res := v3) (hres := e_v3) S hK hP tl_X12_121 ⟨Nat.le_of_ble_eq_true rfl, Nat.le_of_ble_eq_true rfl⟩ hl.1 (Nat.le_of_ble_eq_true rfl) dX12_highOf_18 ?_
  obtain ⟨v4, e_v4, hf⟩ := Option.bind_eq_some_iff.mp hf
  refine k_X12_reg (a0 := v3) (res := v4) (hres := e_v4) S hK hP tl_X12_161 ⟨Nat.le_of_ble_eq_true rfl, Nat.le_of_ble_eq_true rfl⟩ hl.1 (Nat.le_of_ble_eq_true rfl) dX12_highOf_21 ?_
  refine lv_lstore_n (lv' := [(3, .long v4), (1, .long v2), (0, .ref (r 0))]) hx hb dX12_highOf_24 rfl hl (by decide) rfl (fun ls hl => ?_)
  refine lv_lload_n hx hb dX12_highOf_25 rfl (lv_at hl 1 rfl) ?_
  refine lv_lload_n hx hb dX12_highOf_26 rfl (lv_at hl 0 rfl) ?_
  refine k_X12_upper (a0 := v2) (a1 := v4) S tl_X12_179 ⟨Nat.le_of_ble_eq_true rfl, Nat.le_of_ble_eq_true rfl⟩ hl.1 (Nat.le_of_ble_eq_true rfl) dX12_highOf_27 ?_
  refine lv_lstore (lv' := [(5, .long (F_X12_upper v2 v4)), (3, .long v4), (1, .long v2), (0, .ref (r 0))]) hx hb dX12_highOf_30 hl (by decide) rfl (fun ls hl => ?_)
  exact J_c32 σ v2 v4 (F_X12_upper v2 v4) H locs ls hf hP hD hS (lv_sub hl [3, 2, 1, 0] rfl)
theorem k_X12_highOf {p : Program} {l : Launch} {e : Env} {R : Room} {s : State} {m : MethodId} {args : Array Value} {below : List Frame} {meth : Method} {c : Code} {H : Heap} {locs : List Loc} {Q : State → Prop} {cc : ByteArray} {pc : Nat} {ls : Array Slot} {rest : List Value} {own : String} {index nL : Nat} {A : Nat → Prop} {z : Cx} {r : Nat → Nat} {σ : MS} {res : MS} (hres : F_X12_highOf σ = some res) (S : CallFix p m c cc nL s args tbG own) (hK : va_K z.1 vwCl (cxT z) s) (hA : ∀ q, s.heap.size ≤ q → A q) (hP : va_P z.1 vwCl (mW z r σ) H) (hD : va_D A (mW z r σ)) (hS : va_S A s.heap H locs) (hl : Cond.methodLink own index yX12_highOf ∈ tbG) (hR : 1 + 1 ≤ R.frames ∧ 8 + (7 + 11) + 39 ≤ R.locals) (hsz : ls.size = nL) (hcat : (rest.map fun v => v.category).sum ≤ 8) (hdg : decode cc pc = .ok (.invokevirtual index, 3)) (kk : ∀ (H : Heap) (locs : List Loc), va_P z.1 vwCl (mW z r res) H → va_D A (mW z r res) → va_S A s.heap H locs → W p l e R s m args below meth c H locs 0 0 Q (F0 m (pc + 3) ls (rest))) : W p l e R s m args below meth c H locs 0 0 Q (F0 m pc ls (.ref (r 0) :: rest)) :=
  km (As := []) (ov := none) (w' := mW z r res) (q0 := 0) (ci := 11) S hK hA hP hD hS (c_X12_highOf l z r σ H.size _ hres) ⟨tb_cB 0 S.2.2.2.2 tc_X12_highOf ti_X12 hl rfl rfl (by decide +kernel) hR, S.2.2.2.2 _ tm_X12_highOf, S.2.2.2.2 _ te_X12_highOf⟩ rfl rfl rfl rfl hsz rfl hcat hdg kk

theorem dX12_quotient_0 : decode cX12_quotient 0 = .ok (.lconst 0, 1) := by decide +kernel
theorem dX12_quotient_1 : decode cX12_quotient 1 = .ok (.lstore 5, 2) := by decide +kernel
theorem dX12_quotient_3 : decode cX12_quotient 3 = .ok (.lconst 0, 1) := by decide +kernel
theorem dX12_quotient_4 : decode cX12_quotient 4 = .ok (.lstore 7, 2) := by decide +kernel
theorem dX12_quotient_6 : decode cX12_quotient 6 = .ok (.iload 4, 2) := by decide +kernel
theorem dX12_quotient_8 : decode cX12_quotient 8 = .ok (.iconst 1, 1) := by decide +kernel
theorem dX12_quotient_9 : decode cX12_quotient 9 = .ok (.isub, 1) := by decide +kernel
theorem dX12_quotient_10 : decode cX12_quotient 10 = .ok (.istore 9, 2) := by decide +kernel
theorem dX12_quotient_12 : decode cX12_quotient 12 = .ok (.iload 9, 2) := by decide +kernel
theorem dX12_quotient_14 : decode cX12_quotient 14 = .ok (.ifCond .lt 71, 3) := by decide +kernel
theorem dX12_quotient_17 : decode cX12_quotient 17 = .ok (.lload 5, 2) := by decide +kernel
theorem dX12_quotient_19 : decode cX12_quotient 19 = .ok (.lconst 0, 1) := by decide +kernel
theorem dX12_quotient_20 : decode cX12_quotient 20 = .ok (.lcmp, 1) := by decide +kernel
theorem dX12_quotient_21 : decode cX12_quotient 21 = .ok (.ifCond .ge 7, 3) := by decide +kernel
theorem dX12_quotient_24 : decode cX12_quotient 24 = .ok (.iconst 1, 1) := by decide +kernel
theorem dX12_quotient_25 : decode cX12_quotient 25 = .ok (.goto 4, 3) := by decide +kernel
theorem dX12_quotient_28 : decode cX12_quotient 28 = .ok (.iconst 0, 1) := by decide +kernel
theorem dX12_quotient_29 : decode cX12_quotient 29 = .ok (.istore 10, 2) := by decide +kernel
theorem dX12_quotient_31 : decode cX12_quotient 31 = .ok (.lload 5, 2) := by decide +kernel
theorem dX12_quotient_33 : decode cX12_quotient 33 = .ok (.iconst 1, 1) := by decide +kernel
theorem dX12_quotient_34 : decode cX12_quotient 34 = .ok (.lshl, 1) := by decide +kernel
theorem dX12_quotient_35 : decode cX12_quotient 35 = .ok (.lload_n 0, 1) := by decide +kernel
theorem dX12_quotient_36 : decode cX12_quotient 36 = .ok (.iload 9, 2) := by decide +kernel
theorem dX12_quotient_38 : decode cX12_quotient 38 = .ok (.lshr, 1) := by decide +kernel
theorem dX12_quotient_39 : decode cX12_quotient 39 = .ok (.lconst 1, 1) := by decide +kernel
theorem dX12_quotient_40 : decode cX12_quotient 40 = .ok (.land, 1) := by decide +kernel
theorem dX12_quotient_41 : decode cX12_quotient 41 = .ok (.lor, 1) := by decide +kernel
theorem dX12_quotient_42 : decode cX12_quotient 42 = .ok (.lstore 5, 2) := by decide +kernel
theorem dX12_quotient_44 : decode cX12_quotient 44 = .ok (.iload 10, 2) := by decide +kernel
theorem dX12_quotient_46 : decode cX12_quotient 46 = .ok (.ifCond .ne 18, 3) := by decide +kernel
theorem dX12_quotient_49 : decode cX12_quotient 49 = .ok (.lload 5, 2) := by decide +kernel
theorem dX12_quotient_51 : decode cX12_quotient 51 = .ok (.ldc2_w 183, 3) := by decide +kernel
theorem dX12_quotient_54 : decode cX12_quotient 54 = .ok (.ladd, 1) := by decide +kernel
theorem dX12_quotient_55 : decode cX12_quotient 55 = .ok (.lload_n 2, 1) := by decide +kernel
theorem dX12_quotient_56 : decode cX12_quotient 56 = .ok (.ldc2_w 183, 3) := by decide +kernel
theorem dX12_quotient_59 : decode cX12_quotient 59 = .ok (.ladd, 1) := by decide +kernel
theorem dX12_quotient_60 : decode cX12_quotient 60 = .ok (.lcmp, 1) := by decide +kernel
theorem dX12_quotient_61 : decode cX12_quotient 61 = .ok (.ifCond .lt 18, 3) := by decide +kernel
theorem dX12_quotient_64 : decode cX12_quotient 64 = .ok (.lload 5, 2) := by decide +kernel
theorem dX12_quotient_66 : decode cX12_quotient 66 = .ok (.lload_n 2, 1) := by decide +kernel
theorem dX12_quotient_67 : decode cX12_quotient 67 = .ok (.lsub, 1) := by decide +kernel
theorem dX12_quotient_68 : decode cX12_quotient 68 = .ok (.lstore 5, 2) := by decide +kernel
theorem dX12_quotient_70 : decode cX12_quotient 70 = .ok (.lload 7, 2) := by decide +kernel
theorem dX12_quotient_72 : decode cX12_quotient 72 = .ok (.lconst 1, 1) := by decide +kernel
theorem dX12_quotient_73 : decode cX12_quotient 73 = .ok (.iload 9, 2) := by decide +kernel
theorem dX12_quotient_75 : decode cX12_quotient 75 = .ok (.lshl, 1) := by decide +kernel
theorem dX12_quotient_76 : decode cX12_quotient 76 = .ok (.lor, 1) := by decide +kernel
theorem dX12_quotient_77 : decode cX12_quotient 77 = .ok (.lstore 7, 2) := by decide +kernel
theorem dX12_quotient_79 : decode cX12_quotient 79 = .ok (.iinc 9 (-1), 3) := by decide +kernel
theorem dX12_quotient_82 : decode cX12_quotient 82 = .ok (.goto (-70), 3) := by decide +kernel
theorem dX12_quotient_85 : decode cX12_quotient 85 = .ok (.lload 7, 2) := by decide +kernel
theorem dX12_quotient_87 : decode cX12_quotient 87 = .ok (.lreturn, 1) := by decide +kernel
def F_X12_quotient_c79 (k : Int64 → Int64 → Int32 → Int64 → Int64 → Int32 → Option (Int64)) (a0 : Int64) (a1 : Int64) (a2 : Int32) (w5 : Int64) (w7 : Int64) (w9 : Int32) : Option (Int64) := (k a0 a1 a2 w5 w7 (w9 + (-1)))
def F_X12_quotient_c64 (k : Int64 → Int64 → Int32 → Int64 → Int64 → Int32 → Option (Int64)) (a0 : Int64) (a1 : Int64) (a2 : Int32) (w5 : Int64) (w7 : Int64) (w9 : Int32) : Option (Int64) := (F_X12_quotient_c79 k a0 a1 a2 (w5 - a1) (w7 ||| (j_lshl (1 : Int64) w9)) w9)
def F_X12_quotient_c44 (k : Int64 → Int64 → Int32 → Int64 → Int64 → Int32 → Option (Int64)) (a0 : Int64) (a1 : Int64) (a2 : Int32) (w5 : Int64) (w7 : Int64) (w9 : Int32) (w10 : Bool) : Option (Int64) := (if w10 = true then (F_X12_quotient_c64 k a0 a1 a2 w5 w7 w9) else (if (w5 + (-9223372036854775808 : Int64)) < (a1 + (-9223372036854775808 : Int64)) then (F_X12_quotient_c79 k a0 a1 a2 w5 w7 w9) else (F_X12_quotient_c64 k a0 a1 a2 w5 w7 w9)))
def F_X12_quotient_c29 (k : Int64 → Int64 → Int32 → Int64 → Int64 → Int32 → Option (Int64)) (a0 : Int64) (a1 : Int64) (a2 : Int32) (w5 : Int64) (w7 : Int64) (w9 : Int32) (s0 : Bool) : Option (Int64) := (F_X12_quotient_c44 k a0 a1 a2 ((j_lshl w5 (1 : Int32)) ||| ((j_lshr a0 w9) &&& (1 : Int64))) w7 w9 s0)
def F_X12_quotient_c12 : Nat → Int64 → Int64 → Int32 → Int64 → Int64 → Int32 → Option (Int64)
  | 0, _, _, _, _, _, _ => none
  | n + 1, a0, a1, a2, w5, w7, w9 => (if w9 < 0 then some (w7) else (if (0 : Int64) ≤ w5 then (F_X12_quotient_c29 (F_X12_quotient_c12 n) a0 a1 a2 w5 w7 w9 false) else (F_X12_quotient_c29 (F_X12_quotient_c12 n) a0 a1 a2 w5 w7 w9 true)))
def F_X12_quotient (a0 : Int64) (a1 : Int64) (a2 : Int32) : Option (Int64) := (F_X12_quotient_c12 70 a0 a1 a2 (0 : Int64) (0 : Int64) (a2 - (1 : Int32)))
set_option maxHeartbeats 4000000 in
set_option maxRecDepth 100000 in
theorem c_X12_quotient (l : Launch) (a0 : Int64) (a1 : Int64) (a2 : Int32) (res : Int64) (hf : F_X12_quotient a0 a1 a2 = some res) : Met l yX12_quotient (wsC yX12_quotient cX12_quotient 11 (some .long)) { frames := 0, cells := 0, slots := 0, locals := 0 } (fun v _ => v = ([.long a0, .long a1, .int a2] : List Value).toArray) (gS (some (.long res))) 0 0 (fun _ => False) := by
  refine mk_s_l (own := RX12) (by decide) rfl _ (Nat.le_of_ble_eq_true rfl) (fun p e s m below meth c H locs Q ls S hl hend => ?_)
  have hx := S.1
  have hb := S.2.1
  have hown := S.2.2.2.1
  have hts := S.2.2.2.2
  have hl : lv_has ls 11 [(0, .long a0), (2, .long a1), (4, .int a2)] := hl
  have J_c12 : ∀ (n : Nat) (w5 : Int64) (w7 : Int64) (w9 : Int32) (ls : Array Slot), F_X12_quotient_c12 n a0 a1 a2 w5 w7 w9 = some res → lv_has ls 11 [(0, .long a0), (2, .long a1), (5, .long w5), (7, .long w7), (9, .int w9)] → W p l e { frames := 0, cells := 0, slots := 0, locals := 0 } s m ([.long a0, .long a1, .int a2] : List Value).toArray below meth c H locs 0 0 Q (F0 m 12 ls []) := by
    intro n
    induction n with
    | zero => intro w5 w7 w9 ls hf; rw [F_X12_quotient_c12] at hf; cases hf
    | succ n ih =>
      have J_c79 : ∀ (w5 : Int64) (w7 : Int64) (w9 : Int32) (ls : Array Slot), F_X12_quotient_c79 (F_X12_quotient_c12 n) a0 a1 a2 w5 w7 w9 = some res → lv_has ls 11 [(0, .long a0), (2, .long a1), (5, .long w5), (7, .long w7), (9, .int w9)] → W p l e { frames := 0, cells := 0, slots := 0, locals := 0 } s m ([.long a0, .long a1, .int a2] : List Value).toArray below meth c H locs 0 0 Q (F0 m 79 ls []) := by
        intro w5 w7 w9 ls hf hl
        unfold F_X12_quotient_c79 at hf
        refine lv_iinc (v := w9 + (-1)) (lv' := [(9, .int (w9 + (-1))), (0, .long a0), (2, .long a1), (5, .long w5), (7, .long w7)]) hx hb dX12_quotient_79 hl (k := 4) rfl rfl (by decide) rfl (fun ls hl => ?_)
        refine lv_goto (tgt := 12) hx hb dX12_quotient_82 (by decide) ?_
        exact ih w5 w7 (w9 + (-1)) ls hf (lv_sub hl [1, 2, 3, 4, 0] rfl)
      have J_c64 : ∀ (w5 : Int64) (w7 : Int64) (w9 : Int32) (ls : Array Slot), F_X12_quotient_c64 (F_X12_quotient_c12 n) a0 a1 a2 w5 w7 w9 = some res → lv_has ls 11 [(0, .long a0), (2, .long a1), (5, .long w5), (7, .long w7), (9, .int w9)] → W p l e { frames := 0, cells := 0, slots := 0, locals := 0 } s m ([.long a0, .long a1, .int a2] : List Value).toArray below meth c H locs 0 0 Q (F0 m 64 ls []) := by
        intro w5 w7 w9 ls hf hl
        unfold F_X12_quotient_c64 at hf
        refine lv_lload hx hb dX12_quotient_64 (lv_at hl 2 rfl) ?_
        refine lv_lload_n hx hb dX12_quotient_66 rfl (lv_at hl 1 rfl) ?_
        refine lv_lsub hx hb dX12_quotient_67 ?_
        refine lv_lstore (lv' := [(5, .long (w5 - a1)), (0, .long a0), (2, .long a1), (7, .long w7), (9, .int w9)]) hx hb dX12_quotient_68 hl (by decide) rfl (fun ls hl => ?_)
        refine lv_lload hx hb dX12_quotient_70 (lv_at hl 3 rfl) ?_
        refine lv_lconst (v := 1) hx hb dX12_quotient_72 (by decide) ?_
        refine lv_iload hx hb dX12_quotient_73 (lv_at hl 4 rfl) ?_
        refine lv_lshl (v := (j_lshl (1 : Int64) w9)) hx hb dX12_quotient_75 rfl ?_
        refine lv_lor hx hb dX12_quotient_76 ?_
        refine lv_lstore (lv' := [(7, .long (w7 ||| (j_lshl (1 : Int64) w9))), (5, .long (w5 - a1)), (0, .long a0), (2, .long a1), (9, .int w9)]) hx hb dX12_quotient_77 hl (by decide) rfl (fun ls hl => ?_)
        exact J_c79 (w5 - a1) (w7 ||| (j_lshl (1 : Int64) w9)) w9 ls hf (lv_sub hl [2, 3, 1, 0, 4] rfl)
      have J_c44 : ∀ (w5 : Int64) (w7 : Int64) (w9 : Int32) (w10 : Bool) (ls : Array Slot), F_X12_quotient_c44 (F_X12_quotient_c12 n) a0 a1 a2 w5 w7 w9 w10 = some res → lv_has ls 11 [(0, .long a0), (2, .long a1), (5, .long w5), (7, .long w7), (9, .int w9), (10, .int (zB w10))] → W p l e { frames := 0, cells := 0, slots := 0, locals := 0 } s m ([.long a0, .long a1, .int a2] : List Value).toArray below meth c H locs 0 0 Q (F0 m 44 ls []) := by
        intro w5 w7 w9 w10 ls hf hl
        unfold F_X12_quotient_c44 at hf
        refine lv_iload hx hb dX12_quotient_44 (lv_at hl 5 rfl) ?_
        refine gz_ne (tgt := 64) hx hb dX12_quotient_46 (by decide) (fun c_46 => ?_) (fun c_46 => ?_)
        · rw [if_pos c_46] at hf
          exact J_c64 w5 w7 w9 ls hf (lv_sub hl [0, 1, 2, 3, 4] rfl)
        · rw [if_neg c_46] at hf
          refine lv_lload hx hb dX12_quotient_49 (lv_at hl 2 rfl) ?_
          refine lv_ldc2 (v := -9223372036854775808) hx hb hown (hts _ tk_X12_183) dX12_quotient_51 ?_
          refine lv_ladd hx hb dX12_quotient_54 ?_
          refine lv_lload_n hx hb dX12_quotient_55 rfl (lv_at hl 1 rfl) ?_
          refine lv_ldc2 (v := -9223372036854775808) hx hb hown (hts _ tk_X12_183) dX12_quotient_56 ?_
          refine lv_ladd hx hb dX12_quotient_59 ?_
          refine gl_lt (tgt := 79) hx hb dX12_quotient_60 dX12_quotient_61 (by decide) (fun c_60 => ?_) (fun c_60 => ?_)
          · rw [if_pos c_60] at hf
            exact J_c79 w5 w7 w9 ls hf (lv_sub hl [0, 1, 2, 3, 4] rfl)
          · rw [if_neg c_60] at hf
            exact J_c64 w5 w7 w9 ls hf (lv_sub hl [0, 1, 2, 3, 4] rfl)
      have J_c29 : ∀ (w5 : Int64) (w7 : Int64) (w9 : Int32) (s0 : Bool) (ls : Array Slot), F_X12_quotient_c29 (F_X12_quotient_c12 n) a0 a1 a2 w5 w7 w9 s0 = some res → lv_has ls 11 [(0, .long a0), (2, .long a1), (5, .long w5), (7, .long w7), (9, .int w9)] → W p l e { frames := 0, cells := 0, slots := 0, locals := 0 } s m ([.long a0, .long a1, .int a2] : List Value).toArray below meth c H locs 0 0 Q (F0 m 29 ls [.int (zB s0)]) := by
        intro w5 w7 w9 s0 ls hf hl
        unfold F_X12_quotient_c29 at hf
        refine lv_istore (lv' := [(10, .int (zB s0)), (0, .long a0), (2, .long a1), (5, .long w5), (7, .long w7), (9, .int w9)]) hx hb dX12_quotient_29 hl (by decide) rfl (fun ls hl => ?_)
        refine lv_lload hx hb dX12_quotient_31 (lv_at hl 3 rfl) ?_
        refine lv_iconst (v := 1) hx hb dX12_quotient_33 (by decide) ?_
        refine lv_lshl (v := (j_lshl w5 (1 : Int32))) hx hb dX12_quotient_34 rfl ?_
        refine lv_lload_n hx hb dX12_quotient_35 rfl (lv_at hl 1 rfl) ?_
        refine lv_iload hx hb dX12_quotient_36 (lv_at hl 5 rfl) ?_
        refine lv_lshr (v := (j_lshr a0 w9)) hx hb dX12_quotient_38 rfl ?_
        refine lv_lconst (v := 1) hx hb dX12_quotient_39 (by decide) ?_
        refine lv_land hx hb dX12_quotient_40 ?_
        refine lv_lor hx hb dX12_quotient_41 ?_
        refine lv_lstore (lv' := [(5, .long ((j_lshl w5 (1 : Int32)) ||| ((j_lshr a0 w9) &&& (1 : Int64)))), (10, .int (zB s0)), (0, .long a0), (2, .long a1), (7, .long w7), (9, .int w9)]) hx hb dX12_quotient_42 hl (by decide) rfl (fun ls hl => ?_)
        exact J_c44 ((j_lshl w5 (1 : Int32)) ||| ((j_lshr a0 w9) &&& (1 : Int64))) w7 w9 s0 ls hf (lv_sub hl [2, 3, 0, 4, 5, 1] rfl)
      intro w5 w7 w9 ls hf hl
      rw [F_X12_quotient_c12] at hf
      refine lv_iload hx hb dX12_quotient_12 (lv_at hl 4 rfl) ?_
      refine lv_if_lt (tgt := 85) hx hb dX12_quotient_14 (by decide) (fun c_14 => ?_) (fun c_14 => ?_)
      · rw [if_pos c_14] at hf
        refine lv_lload hx hb dX12_quotient_85 (lv_at hl 3 rfl) ?_
        exact hend w7 87 ls (Option.some.inj hf) dX12_quotient_87
      · rw [if_neg c_14] at hf
        refine lv_lload hx hb dX12_quotient_17 (lv_at hl 2 rfl) ?_
        refine lv_lconst (v := 0) hx hb dX12_quotient_19 (by decide) ?_
        refine gl_ge (tgt := 28) hx hb dX12_quotient_20 dX12_quotient_21 (by decide) (fun c_20 => ?_) (fun c_20 => ?_)
        · rw [if_pos c_20] at hf
          refine lv_iconst (v := 0) hx hb dX12_quotient_28 (by decide) ?_
          exact J_c29 w5 w7 w9 false ls hf (lv_sub hl [0, 1, 2, 3, 4] rfl)
        · rw [if_neg c_20] at hf
          refine lv_iconst (v := 1) hx hb dX12_quotient_24 (by decide) ?_
          refine lv_goto (tgt := 29) hx hb dX12_quotient_25 (by decide) ?_
          exact J_c29 w5 w7 w9 true ls hf (lv_sub hl [0, 1, 2, 3, 4] rfl)
  unfold F_X12_quotient at hf
  refine lv_lconst (v := 0) hx hb dX12_quotient_0 (by decide) ?_
  refine lv_lstore (lv' := [(5, .long (0 : Int64)), (0, .long a0), (2, .long a1), (4, .int a2)]) hx hb dX12_quotient_1 hl (by decide) rfl (fun ls hl => ?_)
  refine lv_lconst (v := 0) hx hb dX12_quotient_3 (by decide) ?_
  refine lv_lstore (lv' := [(7, .long (0 : Int64)), (5, .long (0 : Int64)), (0, .long a0), (2, .long a1), (4, .int a2)]) hx hb dX12_quotient_4 hl (by decide) rfl (fun ls hl => ?_)
  refine lv_iload hx hb dX12_quotient_6 (lv_at hl 4 rfl) ?_
  refine lv_iconst (v := 1) hx hb dX12_quotient_8 (by decide) ?_
  refine lv_isub hx hb dX12_quotient_9 ?_
  refine lv_istore (lv' := [(9, .int (a2 - (1 : Int32))), (7, .long (0 : Int64)), (5, .long (0 : Int64)), (0, .long a0), (2, .long a1), (4, .int a2)]) hx hb dX12_quotient_10 hl (by decide) rfl (fun ls hl => ?_)
  exact J_c12 70 (0 : Int64) (0 : Int64) (a2 - (1 : Int32)) ls hf (lv_sub hl [3, 4, 2, 1, 0] rfl)
theorem k_X12_quotient {p : Program} {l : Launch} {e : Env} {R : Room} {s : State} {m : MethodId} {args : Array Value} {below : List Frame} {meth : Method} {c : Code} {H : Heap} {locs : List Loc} {Q : State → Prop} {cc : ByteArray} {pc : Nat} {ls : Array Slot} {rest : List Value} {own : String} {index nL : Nat} {a0 : Int64} {a1 : Int64} {a2 : Int32} {res : Int64} (hres : F_X12_quotient a0 a1 a2 = some res) (S : CallFix p m c cc nL s args tbG own) (hl : Cond.methodLink own index yX12_quotient ∈ tbG) (hR : 0 + 1 ≤ R.frames ∧ 8 + (11 + 11) + 0 ≤ R.locals) (hsz : ls.size = nL) (hcat : (rest.map fun v => v.category).sum ≤ 8) (hdg : decode cc pc = .ok (.invokestatic index, 3)) (kk : W p l e R s m args below meth c H locs 0 0 Q (F0 m (pc + 3) ls (.long res :: rest))) : W p l e R s m args below meth c H locs 0 0 Q (F0 m pc ls (.int a2 :: .long a1 :: .long a0 :: rest)) :=
  ks (As := [.long a0, .long a1, .int a2]) (ov := some (.long res)) S (c_X12_quotient l a0 a1 a2 _ hres) ⟨tb_cB 3 S.2.2.2.2 tc_X12_quotient ti_X12 hl rfl rfl (by decide +kernel) hR, S.2.2.2.2 _ ts_X12_quotient⟩ rfl hsz rfl hcat hdg kk

theorem dX12_two_0 : decode cX12_two 0 = .ok (.aload_n 0, 1) := by decide +kernel
theorem dX12_two_1 : decode cX12_two 1 = .ok (.invokevirtual 129, 3) := by decide +kernel
theorem dX12_two_4 : decode cX12_two 4 = .ok (.istore_n 1, 1) := by decide +kernel
theorem dX12_two_5 : decode cX12_two 5 = .ok (.aload_n 0, 1) := by decide +kernel
theorem dX12_two_6 : decode cX12_two 6 = .ok (.bipush 15, 2) := by decide +kernel
theorem dX12_two_8 : decode cX12_two 8 = .ok (.bipush 10, 2) := by decide +kernel
theorem dX12_two_10 : decode cX12_two 10 = .ok (.invokevirtual 121, 3) := by decide +kernel
theorem dX12_two_13 : decode cX12_two 13 = .ok (.istore_n 2, 1) := by decide +kernel
theorem dX12_two_14 : decode cX12_two 14 = .ok (.aload_n 0, 1) := by decide +kernel
theorem dX12_two_15 : decode cX12_two 15 = .ok (.aload_n 0, 1) := by decide +kernel
theorem dX12_two_16 : decode cX12_two 16 = .ok (.bipush 9, 2) := by decide +kernel
theorem dX12_two_18 : decode cX12_two 18 = .ok (.iconst 5, 1) := by decide +kernel
theorem dX12_two_19 : decode cX12_two 19 = .ok (.invokevirtual 121, 3) := by decide +kernel
theorem dX12_two_22 : decode cX12_two 22 = .ok (.invokevirtual 161, 3) := by decide +kernel
theorem dX12_two_25 : decode cX12_two 25 = .ok (.iload_n 1, 1) := by decide +kernel
theorem dX12_two_26 : decode cX12_two 26 = .ok (.invokestatic 138, 3) := by decide +kernel
theorem dX12_two_29 : decode cX12_two 29 = .ok (.lstore_n 3, 1) := by decide +kernel
theorem dX12_two_30 : decode cX12_two 30 = .ok (.aload_n 0, 1) := by decide +kernel
theorem dX12_two_31 : decode cX12_two 31 = .ok (.aload_n 0, 1) := by decide +kernel
theorem dX12_two_32 : decode cX12_two 32 = .ok (.bipush 20, 2) := by decide +kernel
theorem dX12_two_34 : decode cX12_two 34 = .ok (.bipush 16, 2) := by decide +kernel
theorem dX12_two_36 : decode cX12_two 36 = .ok (.invokevirtual 121, 3) := by decide +kernel
theorem dX12_two_39 : decode cX12_two 39 = .ok (.invokevirtual 161, 3) := by decide +kernel
theorem dX12_two_42 : decode cX12_two 42 = .ok (.iload_n 1, 1) := by decide +kernel
theorem dX12_two_43 : decode cX12_two 43 = .ok (.invokestatic 138, 3) := by decide +kernel
theorem dX12_two_46 : decode cX12_two 46 = .ok (.lstore 5, 2) := by decide +kernel
theorem dX12_two_48 : decode cX12_two 48 = .ok (.iload_n 2, 1) := by decide +kernel
theorem dX12_two_49 : decode cX12_two 49 = .ok (.iconst 2, 1) := by decide +kernel
theorem dX12_two_50 : decode cX12_two 50 = .ok (.if_icmp .eq 25, 3) := by decide +kernel
theorem dX12_two_53 : decode cX12_two 53 = .ok (.iload_n 2, 1) := by decide +kernel
theorem dX12_two_54 : decode cX12_two 54 = .ok (.iconst 3, 1) := by decide +kernel
theorem dX12_two_55 : decode cX12_two 55 = .ok (.if_icmp .eq 20, 3) := by decide +kernel
theorem dX12_two_58 : decode cX12_two 58 = .ok (.iload_n 2, 1) := by decide +kernel
theorem dX12_two_59 : decode cX12_two 59 = .ok (.bipush 8, 2) := by decide +kernel
theorem dX12_two_61 : decode cX12_two 61 = .ok (.if_icmp .lt 9, 3) := by decide +kernel
theorem dX12_two_64 : decode cX12_two 64 = .ok (.iload_n 2, 1) := by decide +kernel
theorem dX12_two_65 : decode cX12_two 65 = .ok (.bipush 11, 2) := by decide +kernel
theorem dX12_two_67 : decode cX12_two 67 = .ok (.if_icmp .le 8, 3) := by decide +kernel
theorem dX12_two_70 : decode cX12_two 70 = .ok (.aload_n 0, 1) := by decide +kernel
theorem dX12_two_71 : decode cX12_two 71 = .ok (.invokevirtual 158, 3) := by decide +kernel
theorem dX12_two_74 : decode cX12_two 74 = .ok (.return_, 1) := by decide +kernel
theorem dX12_two_75 : decode cX12_two 75 = .ok (.lconst 0, 1) := by decide +kernel
theorem dX12_two_76 : decode cX12_two 76 = .ok (.lstore 7, 2) := by decide +kernel
theorem dX12_two_78 : decode cX12_two 78 = .ok (.iload_n 2, 1) := by decide +kernel
theorem dX12_two_79 : decode cX12_two 79 = .ok (.iconst 2, 1) := by decide +kernel
theorem dX12_two_80 : decode cX12_two 80 = .ok (.if_icmp .ne 19, 3) := by decide +kernel
theorem dX12_two_83 : decode cX12_two 83 = .ok (.lload 5, 2) := by decide +kernel
theorem dX12_two_85 : decode cX12_two 85 = .ok (.lconst 0, 1) := by decide +kernel
theorem dX12_two_86 : decode cX12_two 86 = .ok (.lcmp, 1) := by decide +kernel
theorem dX12_two_87 : decode cX12_two 87 = .ok (.ifCond .eq 12, 3) := by decide +kernel
theorem dX12_two_90 : decode cX12_two 90 = .ok (.lload_n 3, 1) := by decide +kernel
theorem dX12_two_91 : decode cX12_two 91 = .ok (.lload 5, 2) := by decide +kernel
theorem dX12_two_93 : decode cX12_two 93 = .ok (.iload_n 1, 1) := by decide +kernel
theorem dX12_two_94 : decode cX12_two 94 = .ok (.invokestatic 185, 3) := by decide +kernel
theorem dX12_two_97 : decode cX12_two 97 = .ok (.lstore 7, 2) := by decide +kernel
theorem dX12_two_99 : decode cX12_two 99 = .ok (.iload_n 2, 1) := by decide +kernel
theorem dX12_two_100 : decode cX12_two 100 = .ok (.iconst 3, 1) := by decide +kernel
theorem dX12_two_101 : decode cX12_two 101 = .ok (.if_icmp .ne 80, 3) := by decide +kernel
theorem dX12_two_104 : decode cX12_two 104 = .ok (.lload 5, 2) := by decide +kernel
theorem dX12_two_106 : decode cX12_two 106 = .ok (.lconst 0, 1) := by decide +kernel
theorem dX12_two_107 : decode cX12_two 107 = .ok (.lcmp, 1) := by decide +kernel
theorem dX12_two_108 : decode cX12_two 108 = .ok (.ifCond .eq 73, 3) := by decide +kernel
theorem dX12_two_111 : decode cX12_two 111 = .ok (.lload_n 3, 1) := by decide +kernel
theorem dX12_two_112 : decode cX12_two 112 = .ok (.iload_n 1, 1) := by decide +kernel
theorem dX12_two_113 : decode cX12_two 113 = .ok (.iconst 1, 1) := by decide +kernel
theorem dX12_two_114 : decode cX12_two 114 = .ok (.isub, 1) := by decide +kernel
theorem dX12_two_115 : decode cX12_two 115 = .ok (.invokestatic 68, 3) := by decide +kernel
theorem dX12_two_118 : decode cX12_two 118 = .ok (.istore 9, 2) := by decide +kernel
theorem dX12_two_120 : decode cX12_two 120 = .ok (.lload 5, 2) := by decide +kernel
theorem dX12_two_122 : decode cX12_two 122 = .ok (.iload_n 1, 1) := by decide +kernel
theorem dX12_two_123 : decode cX12_two 123 = .ok (.iconst 1, 1) := by decide +kernel
theorem dX12_two_124 : decode cX12_two 124 = .ok (.isub, 1) := by decide +kernel
theorem dX12_two_125 : decode cX12_two 125 = .ok (.invokestatic 68, 3) := by decide +kernel
theorem dX12_two_128 : decode cX12_two 128 = .ok (.istore 10, 2) := by decide +kernel
theorem dX12_two_130 : decode cX12_two 130 = .ok (.iload 9, 2) := by decide +kernel
theorem dX12_two_132 : decode cX12_two 132 = .ok (.ifCond .eq 10, 3) := by decide +kernel
theorem dX12_two_135 : decode cX12_two 135 = .ok (.lload_n 3, 1) := by decide +kernel
theorem dX12_two_136 : decode cX12_two 136 = .ok (.lneg, 1) := by decide +kernel
theorem dX12_two_137 : decode cX12_two 137 = .ok (.iload_n 1, 1) := by decide +kernel
theorem dX12_two_138 : decode cX12_two 138 = .ok (.invokestatic 138, 3) := by decide +kernel
theorem dX12_two_141 : decode cX12_two 141 = .ok (.lstore_n 3, 1) := by decide +kernel
theorem dX12_two_142 : decode cX12_two 142 = .ok (.iload 10, 2) := by decide +kernel
theorem dX12_two_144 : decode cX12_two 144 = .ok (.ifCond .eq 12, 3) := by decide +kernel
theorem dX12_two_147 : decode cX12_two 147 = .ok (.lload 5, 2) := by decide +kernel
theorem dX12_two_149 : decode cX12_two 149 = .ok (.lneg, 1) := by decide +kernel
theorem dX12_two_150 : decode cX12_two 150 = .ok (.iload_n 1, 1) := by decide +kernel
theorem dX12_two_151 : decode cX12_two 151 = .ok (.invokestatic 138, 3) := by decide +kernel
theorem dX12_two_154 : decode cX12_two 154 = .ok (.lstore 5, 2) := by decide +kernel
theorem dX12_two_156 : decode cX12_two 156 = .ok (.lload_n 3, 1) := by decide +kernel
theorem dX12_two_157 : decode cX12_two 157 = .ok (.lload 5, 2) := by decide +kernel
theorem dX12_two_159 : decode cX12_two 159 = .ok (.iload_n 1, 1) := by decide +kernel
theorem dX12_two_160 : decode cX12_two 160 = .ok (.invokestatic 185, 3) := by decide +kernel
theorem dX12_two_163 : decode cX12_two 163 = .ok (.lstore 7, 2) := by decide +kernel
theorem dX12_two_165 : decode cX12_two 165 = .ok (.iload 9, 2) := by decide +kernel
theorem dX12_two_167 : decode cX12_two 167 = .ok (.iload 10, 2) := by decide +kernel
theorem dX12_two_169 : decode cX12_two 169 = .ok (.if_icmp .eq 12, 3) := by decide +kernel
theorem dX12_two_172 : decode cX12_two 172 = .ok (.lload 7, 2) := by decide +kernel
theorem dX12_two_174 : decode cX12_two 174 = .ok (.lneg, 1) := by decide +kernel
theorem dX12_two_175 : decode cX12_two 175 = .ok (.iload_n 1, 1) := by decide +kernel
theorem dX12_two_176 : decode cX12_two 176 = .ok (.invokestatic 138, 3) := by decide +kernel
theorem dX12_two_179 : decode cX12_two 179 = .ok (.lstore 7, 2) := by decide +kernel
theorem dX12_two_181 : decode cX12_two 181 = .ok (.iload_n 2, 1) := by decide +kernel
theorem dX12_two_182 : decode cX12_two 182 = .ok (.bipush 8, 2) := by decide +kernel
theorem dX12_two_184 : decode cX12_two 184 = .ok (.if_icmp .lt 22, 3) := by decide +kernel
theorem dX12_two_187 : decode cX12_two 187 = .ok (.lload_n 3, 1) := by decide +kernel
theorem dX12_two_188 : decode cX12_two 188 = .ok (.iload_n 2, 1) := by decide +kernel
theorem dX12_two_189 : decode cX12_two 189 = .ok (.bipush 8, 2) := by decide +kernel
theorem dX12_two_191 : decode cX12_two 191 = .ok (.isub, 1) := by decide +kernel
theorem dX12_two_192 : decode cX12_two 192 = .ok (.lload 5, 2) := by decide +kernel
theorem dX12_two_194 : decode cX12_two 194 = .ok (.iload_n 1, 1) := by decide +kernel
theorem dX12_two_195 : decode cX12_two 195 = .ok (.i2l, 1) := by decide +kernel
theorem dX12_two_196 : decode cX12_two 196 = .ok (.lconst 1, 1) := by decide +kernel
theorem dX12_two_197 : decode cX12_two 197 = .ok (.lsub, 1) := by decide +kernel
theorem dX12_two_198 : decode cX12_two 198 = .ok (.land, 1) := by decide +kernel
theorem dX12_two_199 : decode cX12_two 199 = .ok (.l2i, 1) := by decide +kernel
theorem dX12_two_200 : decode cX12_two 200 = .ok (.iload_n 1, 1) := by decide +kernel
theorem dX12_two_201 : decode cX12_two 201 = .ok (.invokestatic 164, 3) := by decide +kernel
theorem dX12_two_204 : decode cX12_two 204 = .ok (.lstore 7, 2) := by decide +kernel
theorem dX12_two_206 : decode cX12_two 206 = .ok (.aload_n 0, 1) := by decide +kernel
theorem dX12_two_207 : decode cX12_two 207 = .ok (.aload_n 0, 1) := by decide +kernel
theorem dX12_two_208 : decode cX12_two 208 = .ok (.iconst 4, 1) := by decide +kernel
theorem dX12_two_209 : decode cX12_two 209 = .ok (.iconst 0, 1) := by decide +kernel
theorem dX12_two_210 : decode cX12_two 210 = .ok (.invokevirtual 121, 3) := by decide +kernel
theorem dX12_two_213 : decode cX12_two 213 = .ok (.lload 7, 2) := by decide +kernel
theorem dX12_two_215 : decode cX12_two 215 = .ok (.invokevirtual 151, 3) := by decide +kernel
theorem dX12_two_218 : decode cX12_two 218 = .ok (.return_, 1) := by decide +kernel
def F_X12_two_c206 (τ : MS) (w7 : Int64) : Option (MS) := ((F_X12_f τ (4 : Int32) (0 : Int32)).bind fun v6 => ((F_X12_put τ v6 w7).bind fun v7 => some (v7)))
def F_X12_two_c181 (τ : MS) (w1 : Int32) (w2 : Int32) (w3 : Int64) (w5 : Int64) (w7 : Int64) : Option (MS) := (if w2 < (8 : Int32) then (F_X12_two_c206 τ w7) else ((F_X12_moved w3 (w2 - (8 : Int32)) (w5 &&& (w1.toInt64 - (1 : Int64))).toInt32 w1).bind fun v8 => (F_X12_two_c206 τ v8)))
def F_X12_two_c156 (τ : MS) (w1 : Int32) (w2 : Int32) (w3 : Int64) (w5 : Int64) (w9 : Bool) (w10 : Bool) : Option (MS) := ((F_X12_quotient w3 w5 w1).bind fun v9 => (if w9 = w10 then (F_X12_two_c181 τ w1 w2 w3 w5 v9) else (F_X12_two_c181 τ w1 w2 w3 w5 (F_X12_cut (-v9) w1))))
def F_X12_two_c142 (τ : MS) (w1 : Int32) (w2 : Int32) (w3 : Int64) (w5 : Int64) (w9 : Bool) (w10 : Bool) : Option (MS) := (if w10 = true then (F_X12_two_c156 τ w1 w2 w3 (F_X12_cut (-w5) w1) w9 w10) else (F_X12_two_c156 τ w1 w2 w3 w5 w9 w10))
def F_X12_two_c130 (τ : MS) (w1 : Int32) (w2 : Int32) (w3 : Int64) (w5 : Int64) (w9 : Bool) (w10 : Bool) : Option (MS) := (if w9 = true then (F_X12_two_c142 τ w1 w2 (F_X12_cut (-w3) w1) w5 w9 w10) else (F_X12_two_c142 τ w1 w2 w3 w5 w9 w10))
def F_X12_two_c120 (τ : MS) (w1 : Int32) (w2 : Int32) (w3 : Int64) (w5 : Int64) (w9 : Bool) : Option (MS) := (F_X12_two_c130 τ w1 w2 w3 w5 w9 (F_X12_bit w5 (w1 - (1 : Int32))))
def F_X12_two_c99 (τ : MS) (w1 : Int32) (w2 : Int32) (w3 : Int64) (w5 : Int64) (w7 : Int64) : Option (MS) := (if w2 = (3 : Int32) then (if w5 = (0 : Int64) then (F_X12_two_c181 τ w1 w2 w3 w5 w7) else (F_X12_two_c120 τ w1 w2 w3 w5 (F_X12_bit w3 (w1 - (1 : Int32))))) else (F_X12_two_c181 τ w1 w2 w3 w5 w7))
def F_X12_two_c75 (τ : MS) (w1 : Int32) (w2 : Int32) (w3 : Int64) (w5 : Int64) : Option (MS) := (if w2 = (2 : Int32) then (if w5 = (0 : Int64) then (F_X12_two_c99 τ w1 w2 w3 w5 (0 : Int64)) else ((F_X12_quotient w3 w5 w1).bind fun v10 => (F_X12_two_c99 τ w1 w2 w3 w5 v10))) else (F_X12_two_c99 τ w1 w2 w3 w5 (0 : Int64)))
def F_X12_two_c70 (τ : MS) : Option (MS) := some ((F_X12_none τ))
def F_X12_two_c48 (τ : MS) (w1 : Int32) (w2 : Int32) (w3 : Int64) (w5 : Int64) : Option (MS) := (if w2 = (2 : Int32) then (F_X12_two_c75 τ w1 w2 w3 w5) else (if w2 = (3 : Int32) then (F_X12_two_c75 τ w1 w2 w3 w5) else (if w2 < (8 : Int32) then (F_X12_two_c70 τ) else (if w2 ≤ (11 : Int32) then (F_X12_two_c75 τ w1 w2 w3 w5) else (F_X12_two_c70 τ)))))
def F_X12_two_c30 (τ : MS) (w1 : Int32) (w2 : Int32) (w3 : Int64) : Option (MS) := ((F_X12_f τ (20 : Int32) (16 : Int32)).bind fun v4 => ((F_X12_reg τ v4).bind fun v5 => (F_X12_two_c48 τ w1 w2 w3 (F_X12_cut v5 w1))))
def F_X12_two_c5 (τ : MS) (w1 : Int32) : Option (MS) := ((F_X12_f τ (15 : Int32) (10 : Int32)).bind fun v1 => ((F_X12_f τ (9 : Int32) (5 : Int32)).bind fun v2 => ((F_X12_reg τ v2).bind fun v3 => (F_X12_two_c30 τ w1 v1 (F_X12_cut v3 w1)))))
def F_X12_two (σ : MS)  : Option (MS) := (F_X12_two_c5 σ (F_X12_width σ))
set_option maxHeartbeats 4000000 in
set_option maxRecDepth 100000 in
theorem c_X12_two (l : Launch) (z : Cx) (r : Nat → Nat) (σ : MS) (sz : Nat) (res : MS) (hf : F_X12_two σ = some res) : Met l yX12_two (wsC yX12_two cX12_two 11 none) { frames := 3, cells := 0, slots := 0, locals := 72 } (mPc z (mW z r σ) sz [.ref (r 0)]) (gM z (va_A (mW z r σ) sz) none (mW z r res)) 0 0 (va_A (mW z r σ) sz) := by
  refine mk_m_v (own := RX12) (wf := mW z r) (by decide) rfl sz _ (Nat.le_of_ble_eq_true rfl) (fun p e s m below meth c A H locs Q ls S hK hA hP hD hS hl hend => ?_)
  have hx := S.1
  have hb := S.2.1
  have hown := S.2.2.2.1
  have hts := S.2.2.2.2
  have hl : lv_has ls 11 [(0, .ref (r 0))] := hl
  have J_c206 : ∀ (τ : MS) (w7 : Int64) (H : Heap) (locs : List Loc) (ls : Array Slot), F_X12_two_c206 τ w7 = some res → va_P z.1 vwCl (mW z r τ) H → va_D A (mW z r τ) → va_S A s.heap H locs → lv_has ls 11 [(0, .ref (r 0)), (7, .long w7)] → W p l e { frames := 3, cells := 0, slots := 0, locals := 72 } s m ([.ref (r 0)] : List Value).toArray below meth c H locs 0 0 Q (F0 m 206 ls []) := by
    intro τ w7 H locs ls hf hP hD hS hl
    unfold F_X12_two_c206 at hf
    refine lv_aload_n hx hb dX12_two_206 rfl (lv_at hl 0 rfl) ?_
    refine lv_aload_n hx hb dX12_two_207 rfl (lv_at hl 0 rfl) ?_
    refine lv_iconst (v := 4) hx hb dX12_two_208 (by decide) ?_
    refine lv_iconst (v := 0) hx hb dX12_two_209 (by decide) ?_
    obtain ⟨v6, e_v6, hf⟩ := Option.bind_eq_some_iff.mp hf
    refine k_X12_f (a0 := (4 : Int32)) (a1 := (0 : Int32)) (res := v6) (hres := e_v6) S hK hP tl_X12_121 ⟨Nat.le_of_ble_eq_true rfl, Nat.le_of_ble_eq_true rfl⟩ hl.1 (Nat.le_of_ble_eq_true rfl) dX12_two_210 ?_
    refine lv_lload hx hb dX12_two_213 (lv_at hl 1 rfl) ?_
    obtain ⟨v7, e_v7, hf⟩ := Option.bind_eq_some_iff.mp hf
    refine k_X12_put (a0 := v6) (a1 := w7) (res := v7) (hres := e_v7) S hK hA hP hD hS tl_X12_151 ⟨Nat.le_of_ble_eq_true rfl, Nat.le_of_ble_eq_true rfl⟩ hl.1 (Nat.le_of_ble_eq_true rfl) dX12_two_215 (fun H locs hP hD hS => ?_)
    exact hend v7 H locs 218 ls (Option.some.inj hf) hP hD hS dX12_two_218
  have J_c181 : ∀ (τ : MS) (w1 : Int32) (w2 : Int32) (w3 : Int64) (w5 : Int64) (w7 : Int64) (H : Heap) (locs : List Loc) (ls : Array Slot), F_X12_two_c181 τ w1 w2 w3 w5 w7 = some res → va_P z.1 vwCl (mW z r τ) H → va_D A (mW z r τ) → va_S A s.heap H locs → lv_has ls 11 [(0, .ref (r 0)), (1, .int w1), (2, .int w2), (3, .long w3), (5, .long w5), (7, .long w7)] → W p l e { frames := 3, cells := 0, slots := 0, locals := 72 } s m ([.ref (r 0)] : List Value).toArray below meth c H locs 0 0 Q (F0 m 181 ls []) := by
    intro τ w1 w2 w3 w5 w7 H locs ls hf hP hD hS hl
    unfold F_X12_two_c181 at hf
    refine lv_iload_n hx hb dX12_two_181 rfl (lv_at hl 2 rfl) ?_
    refine lv_bipush (v := 8) hx hb dX12_two_182 (by decide) ?_
    refine lv_icmp_lt (tgt := 206) hx hb dX12_two_184 (by decide) (fun c_184 => ?_) (fun c_184 => ?_)
    · rw [if_pos c_184] at hf
      exact J_c206 τ w7 H locs ls hf hP hD hS (lv_sub hl [0, 5] rfl)
    · rw [if_neg c_184] at hf
      refine lv_lload_n hx hb dX12_two_187 rfl (lv_at hl 3 rfl) ?_
      refine lv_iload_n hx hb dX12_two_188 rfl (lv_at hl 2 rfl) ?_
      refine lv_bipush (v := 8) hx hb dX12_two_189 (by decide) ?_
      refine lv_isub hx hb dX12_two_191 ?_
      refine lv_lload hx hb dX12_two_192 (lv_at hl 4 rfl) ?_
      refine lv_iload_n hx hb dX12_two_194 rfl (lv_at hl 1 rfl) ?_
      refine lv_i2l hx hb dX12_two_195 rfl ?_
      refine lv_lconst (v := 1) hx hb dX12_two_196 (by decide) ?_
      refine lv_lsub hx hb dX12_two_197 ?_
      refine lv_land hx hb dX12_two_198 ?_
      refine lv_l2i hx hb dX12_two_199 rfl ?_
      refine lv_iload_n hx hb dX12_two_200 rfl (lv_at hl 1 rfl) ?_
      obtain ⟨v8, e_v8, hf⟩ := Option.bind_eq_some_iff.mp hf
      refine k_X12_moved (a0 := w3) (a1 := (w2 - (8 : Int32))) (a2 := (w5 &&& (w1.toInt64 - (1 : Int64))).toInt32) (a3 := w1) (res := v8) (hres := e_v8) S tl_X12_164 ⟨Nat.le_of_ble_eq_true rfl, Nat.le_of_ble_eq_true rfl⟩ hl.1 (Nat.le_of_ble_eq_true rfl) dX12_two_201 ?_
      refine lv_lstore (lv' := [(7, .long v8), (0, .ref (r 0)), (1, .int w1), (2, .int w2), (3, .long w3), (5, .long w5)]) hx hb dX12_two_204 hl (by decide) rfl (fun ls hl => ?_)
      exact J_c206 τ v8 H locs ls hf hP hD hS (lv_sub hl [1, 0] rfl)
  have J_c156 : ∀ (τ : MS) (w1 : Int32) (w2 : Int32) (w3 : Int64) (w5 : Int64) (w9 : Bool) (w10 : Bool) (H : Heap) (locs : List Loc) (ls : Array Slot), F_X12_two_c156 τ w1 w2 w3 w5 w9 w10 = some res → va_P z.1 vwCl (mW z r τ) H → va_D A (mW z r τ) → va_S A s.heap H locs → lv_has ls 11 [(0, .ref (r 0)), (1, .int w1), (2, .int w2), (3, .long w3), (5, .long w5), (9, .int (zB w9)), (10, .int (zB w10))] → W p l e { frames := 3, cells := 0, slots := 0, locals := 72 } s m ([.ref (r 0)] : List Value).toArray below meth c H locs 0 0 Q (F0 m 156 ls []) := by
    intro τ w1 w2 w3 w5 w9 w10 H locs ls hf hP hD hS hl
    unfold F_X12_two_c156 at hf
    refine lv_lload_n hx hb dX12_two_156 rfl (lv_at hl 3 rfl) ?_
    refine lv_lload hx hb dX12_two_157 (lv_at hl 4 rfl) ?_
    refine lv_iload_n hx hb dX12_two_159 rfl (lv_at hl 1 rfl) ?_
    obtain ⟨v9, e_v9, hf⟩ := Option.bind_eq_some_iff.mp hf
    refine k_X12_quotient (a0 := w3) (a1 := w5) (a2 := w1) (res := v9) (hres := e_v9) S tl_X12_185 ⟨Nat.le_of_ble_eq_true rfl, Nat.le_of_ble_eq_true rfl⟩ hl.1 (Nat.le_of_ble_eq_true rfl) dX12_two_160 ?_
    refine lv_lstore (lv' := [(7, .long v9), (0, .ref (r 0)), (1, .int w1), (2, .int w2), (3, .long w3), (5, .long w5), (9, .int (zB w9)), (10, .int (zB w10))]) hx hb dX12_two_163 hl (by decide) rfl (fun ls hl => ?_)
    refine lv_iload hx hb dX12_two_165 (lv_at hl 6 rfl) ?_
    refine lv_iload hx hb dX12_two_167 (lv_at hl 7 rfl) ?_
    refine gz_ceq (tgt := 181) hx hb dX12_two_169 (by decide) (fun c_169 => ?_) (fun c_169 => ?_)
    · rw [if_pos c_169] at hf
      exact J_c181 τ w1 w2 w3 w5 v9 H locs ls hf hP hD hS (lv_sub hl [1, 2, 3, 4, 5, 0] rfl)
    · rw [if_neg c_169] at hf
      refine lv_lload hx hb dX12_two_172 (lv_at hl 0 rfl) ?_
      refine lv_lneg hx hb dX12_two_174 ?_
      refine lv_iload_n hx hb dX12_two_175 rfl (lv_at hl 2 rfl) ?_
      refine k_X12_cut (a0 := (-v9)) (a1 := w1) S tl_X12_138 ⟨Nat.le_of_ble_eq_true rfl, Nat.le_of_ble_eq_true rfl⟩ hl.1 (Nat.le_of_ble_eq_true rfl) dX12_two_176 ?_
      refine lv_lstore (lv' := [(7, .long (F_X12_cut (-v9) w1)), (0, .ref (r 0)), (1, .int w1), (2, .int w2), (3, .long w3), (5, .long w5), (9, .int (zB w9)), (10, .int (zB w10))]) hx hb dX12_two_179 hl (by decide) rfl (fun ls hl => ?_)
      exact J_c181 τ w1 w2 w3 w5 (F_X12_cut (-v9) w1) H locs ls hf hP hD hS (lv_sub hl [1, 2, 3, 4, 5, 0] rfl)
  have J_c142 : ∀ (τ : MS) (w1 : Int32) (w2 : Int32) (w3 : Int64) (w5 : Int64) (w9 : Bool) (w10 : Bool) (H : Heap) (locs : List Loc) (ls : Array Slot), F_X12_two_c142 τ w1 w2 w3 w5 w9 w10 = some res → va_P z.1 vwCl (mW z r τ) H → va_D A (mW z r τ) → va_S A s.heap H locs → lv_has ls 11 [(0, .ref (r 0)), (1, .int w1), (2, .int w2), (3, .long w3), (5, .long w5), (9, .int (zB w9)), (10, .int (zB w10))] → W p l e { frames := 3, cells := 0, slots := 0, locals := 72 } s m ([.ref (r 0)] : List Value).toArray below meth c H locs 0 0 Q (F0 m 142 ls []) := by
    intro τ w1 w2 w3 w5 w9 w10 H locs ls hf hP hD hS hl
    unfold F_X12_two_c142 at hf
    refine lv_iload hx hb dX12_two_142 (lv_at hl 6 rfl) ?_
    refine gz_eq (tgt := 156) hx hb dX12_two_144 (by decide) (fun c_144 => ?_) (fun c_144 => ?_)
    · rw [if_neg c_144] at hf
      exact J_c156 τ w1 w2 w3 w5 w9 w10 H locs ls hf hP hD hS (lv_sub hl [0, 1, 2, 3, 4, 5, 6] rfl)
    · rw [if_pos c_144] at hf
      refine lv_lload hx hb dX12_two_147 (lv_at hl 4 rfl) ?_
      refine lv_lneg hx hb dX12_two_149 ?_
      refine lv_iload_n hx hb dX12_two_150 rfl (lv_at hl 1 rfl) ?_
      refine k_X12_cut (a0 := (-w5)) (a1 := w1) S tl_X12_138 ⟨Nat.le_of_ble_eq_true rfl, Nat.le_of_ble_eq_true rfl⟩ hl.1 (Nat.le_of_ble_eq_true rfl) dX12_two_151 ?_
      refine lv_lstore (lv' := [(5, .long (F_X12_cut (-w5) w1)), (0, .ref (r 0)), (1, .int w1), (2, .int w2), (3, .long w3), (9, .int (zB w9)), (10, .int (zB w10))]) hx hb dX12_two_154 hl (by decide) rfl (fun ls hl => ?_)
      exact J_c156 τ w1 w2 w3 (F_X12_cut (-w5) w1) w9 w10 H locs ls hf hP hD hS (lv_sub hl [1, 2, 3, 4, 0, 5, 6] rfl)
  have J_c130 : ∀ (τ : MS) (w1 : Int32) (w2 : Int32) (w3 : Int64) (w5 : Int64) (w9 : Bool) (w10 : Bool) (H : Heap) (locs : List Loc) (ls : Array Slot), F_X12_two_c130 τ w1 w2 w3 w5 w9 w10 = some res → va_P z.1 vwCl (mW z r τ) H → va_D A (mW z r τ) → va_S A s.heap H locs → lv_has ls 11 [(0, .ref (r 0)), (1, .int w1), (2, .int w2), (3, .long w3), (5, .long w5), (9, .int (zB w9)), (10, .int (zB w10))] → W p l e { frames := 3, cells := 0, slots := 0, locals := 72 } s m ([.ref (r 0)] : List Value).toArray below meth c H locs 0 0 Q (F0 m 130 ls []) := by
    intro τ w1 w2 w3 w5 w9 w10 H locs ls hf hP hD hS hl
    unfold F_X12_two_c130 at hf
    refine lv_iload hx hb dX12_two_130 (lv_at hl 5 rfl) ?_
    refine gz_eq (tgt := 142) hx hb dX12_two_132 (by decide) (fun c_132 => ?_) (fun c_132 => ?_)
    · rw [if_neg c_132] at hf
      exact J_c142 τ w1 w2 w3 w5 w9 w10 H locs ls hf hP hD hS (lv_sub hl [0, 1, 2, 3, 4, 5, 6] rfl)
    · rw [if_pos c_132] at hf
      refine lv_lload_n hx hb dX12_two_135 rfl (lv_at hl 3 rfl) ?_
      refine lv_lneg hx hb dX12_two_136 ?_
      refine lv_iload_n hx hb dX12_two_137 rfl (lv_at hl 1 rfl) ?_
      refine k_X12_cut (a0 := (-w3)) (a1 := w1) S tl_X12_138 ⟨Nat.le_of_ble_eq_true rfl, Nat.le_of_ble_eq_true rfl⟩ hl.1 (Nat.le_of_ble_eq_true rfl) dX12_two_138 ?_
      refine lv_lstore_n (lv' := [(3, .long (F_X12_cut (-w3) w1)), (0, .ref (r 0)), (1, .int w1), (2, .int w2), (5, .long w5), (9, .int (zB w9)), (10, .int (zB w10))]) hx hb dX12_two_141 rfl hl (by decide) rfl (fun ls hl => ?_)
      exact J_c142 τ w1 w2 (F_X12_cut (-w3) w1) w5 w9 w10 H locs ls hf hP hD hS (lv_sub hl [1, 2, 3, 0, 4, 5, 6] rfl)
  have J_c120 : ∀ (τ : MS) (w1 : Int32) (w2 : Int32) (w3 : Int64) (w5 : Int64) (w9 : Bool) (H : Heap) (locs : List Loc) (ls : Array Slot), F_X12_two_c120 τ w1 w2 w3 w5 w9 = some res → va_P z.1 vwCl (mW z r τ) H → va_D A (mW z r τ) → va_S A s.heap H locs → lv_has ls 11 [(0, .ref (r 0)), (1, .int w1), (2, .int w2), (3, .long w3), (5, .long w5), (9, .int (zB w9))] → W p l e { frames := 3, cells := 0, slots := 0, locals := 72 } s m ([.ref (r 0)] : List Value).toArray below meth c H locs 0 0 Q (F0 m 120 ls []) := by
    intro τ w1 w2 w3 w5 w9 H locs ls hf hP hD hS hl
    unfold F_X12_two_c120 at hf
    refine lv_lload hx hb dX12_two_120 (lv_at hl 4 rfl) ?_
    refine lv_iload_n hx hb dX12_two_122 rfl (lv_at hl 1 rfl) ?_
    refine lv_iconst (v := 1) hx hb dX12_two_123 (by decide) ?_
    refine lv_isub hx hb dX12_two_124 ?_
    refine k_X12_bit (a0 := w5) (a1 := (w1 - (1 : Int32))) S tl_X12_68 ⟨Nat.le_of_ble_eq_true rfl, Nat.le_of_ble_eq_true rfl⟩ hl.1 (Nat.le_of_ble_eq_true rfl) dX12_two_125 ?_
    refine lv_istore (lv' := [(10, .int (zB (F_X12_bit w5 (w1 - (1 : Int32))))), (0, .ref (r 0)), (1, .int w1), (2, .int w2), (3, .long w3), (5, .long w5), (9, .int (zB w9))]) hx hb dX12_two_128 hl (by decide) rfl (fun ls hl => ?_)
    exact J_c130 τ w1 w2 w3 w5 w9 (F_X12_bit w5 (w1 - (1 : Int32))) H locs ls hf hP hD hS (lv_sub hl [1, 2, 3, 4, 5, 6, 0] rfl)
  have J_c99 : ∀ (τ : MS) (w1 : Int32) (w2 : Int32) (w3 : Int64) (w5 : Int64) (w7 : Int64) (H : Heap) (locs : List Loc) (ls : Array Slot), F_X12_two_c99 τ w1 w2 w3 w5 w7 = some res → va_P z.1 vwCl (mW z r τ) H → va_D A (mW z r τ) → va_S A s.heap H locs → lv_has ls 11 [(0, .ref (r 0)), (1, .int w1), (2, .int w2), (3, .long w3), (5, .long w5), (7, .long w7)] → W p l e { frames := 3, cells := 0, slots := 0, locals := 72 } s m ([.ref (r 0)] : List Value).toArray below meth c H locs 0 0 Q (F0 m 99 ls []) := by
    intro τ w1 w2 w3 w5 w7 H locs ls hf hP hD hS hl
    unfold F_X12_two_c99 at hf
    refine lv_iload_n hx hb dX12_two_99 rfl (lv_at hl 2 rfl) ?_
    refine lv_iconst (v := 3) hx hb dX12_two_100 (by decide) ?_
    refine lv_icmp_ne (tgt := 181) hx hb dX12_two_101 (by decide) (fun c_101 => ?_) (fun c_101 => ?_)
    · rw [if_neg c_101] at hf
      exact J_c181 τ w1 w2 w3 w5 w7 H locs ls hf hP hD hS (lv_sub hl [0, 1, 2, 3, 4, 5] rfl)
    · rw [if_pos c_101] at hf
      refine lv_lload hx hb dX12_two_104 (lv_at hl 4 rfl) ?_
      refine lv_lconst (v := 0) hx hb dX12_two_106 (by decide) ?_
      refine gl_eq (tgt := 181) hx hb dX12_two_107 dX12_two_108 (by decide) (fun c_107 => ?_) (fun c_107 => ?_)
      · rw [if_pos c_107] at hf
        exact J_c181 τ w1 w2 w3 w5 w7 H locs ls hf hP hD hS (lv_sub hl [0, 1, 2, 3, 4, 5] rfl)
      · rw [if_neg c_107] at hf
        refine lv_lload_n hx hb dX12_two_111 rfl (lv_at hl 3 rfl) ?_
        refine lv_iload_n hx hb dX12_two_112 rfl (lv_at hl 1 rfl) ?_
        refine lv_iconst (v := 1) hx hb dX12_two_113 (by decide) ?_
        refine lv_isub hx hb dX12_two_114 ?_
        refine k_X12_bit (a0 := w3) (a1 := (w1 - (1 : Int32))) S tl_X12_68 ⟨Nat.le_of_ble_eq_true rfl, Nat.le_of_ble_eq_true rfl⟩ hl.1 (Nat.le_of_ble_eq_true rfl) dX12_two_115 ?_
        refine lv_istore (lv' := [(9, .int (zB (F_X12_bit w3 (w1 - (1 : Int32))))), (0, .ref (r 0)), (1, .int w1), (2, .int w2), (3, .long w3), (5, .long w5), (7, .long w7)]) hx hb dX12_two_118 hl (by decide) rfl (fun ls hl => ?_)
        exact J_c120 τ w1 w2 w3 w5 (F_X12_bit w3 (w1 - (1 : Int32))) H locs ls hf hP hD hS (lv_sub hl [1, 2, 3, 4, 5, 0] rfl)
  have J_c75 : ∀ (τ : MS) (w1 : Int32) (w2 : Int32) (w3 : Int64) (w5 : Int64) (H : Heap) (locs : List Loc) (ls : Array Slot), F_X12_two_c75 τ w1 w2 w3 w5 = some res → va_P z.1 vwCl (mW z r τ) H → va_D A (mW z r τ) → va_S A s.heap H locs → lv_has ls 11 [(0, .ref (r 0)), (1, .int w1), (2, .int w2), (3, .long w3), (5, .long w5)] → W p l e { frames := 3, cells := 0, slots := 0, locals := 72 } s m ([.ref (r 0)] : List Value).toArray below meth c H locs 0 0 Q (F0 m 75 ls []) := by
    intro τ w1 w2 w3 w5 H locs ls hf hP hD hS hl
    unfold F_X12_two_c75 at hf
    refine lv_lconst (v := 0) hx hb dX12_two_75 (by decide) ?_
    refine lv_lstore (lv' := [(7, .long (0 : Int64)), (0, .ref (r 0)), (1, .int w1), (2, .int w2), (3, .long w3), (5, .long w5)]) hx hb dX12_two_76 hl (by decide) rfl (fun ls hl => ?_)
    refine lv_iload_n hx hb dX12_two_78 rfl (lv_at hl 3 rfl) ?_
    refine lv_iconst (v := 2) hx hb dX12_two_79 (by decide) ?_
    refine lv_icmp_ne (tgt := 99) hx hb dX12_two_80 (by decide) (fun c_80 => ?_) (fun c_80 => ?_)
    · rw [if_neg c_80] at hf
      exact J_c99 τ w1 w2 w3 w5 (0 : Int64) H locs ls hf hP hD hS (lv_sub hl [1, 2, 3, 4, 5, 0] rfl)
    · rw [if_pos c_80] at hf
      refine lv_lload hx hb dX12_two_83 (lv_at hl 5 rfl) ?_
      refine lv_lconst (v := 0) hx hb dX12_two_85 (by decide) ?_
      refine gl_eq (tgt := 99) hx hb dX12_two_86 dX12_two_87 (by decide) (fun c_86 => ?_) (fun c_86 => ?_)
      · rw [if_pos c_86] at hf
        exact J_c99 τ w1 w2 w3 w5 (0 : Int64) H locs ls hf hP hD hS (lv_sub hl [1, 2, 3, 4, 5, 0] rfl)
      · rw [if_neg c_86] at hf
        refine lv_lload_n hx hb dX12_two_90 rfl (lv_at hl 4 rfl) ?_
        refine lv_lload hx hb dX12_two_91 (lv_at hl 5 rfl) ?_
        refine lv_iload_n hx hb dX12_two_93 rfl (lv_at hl 2 rfl) ?_
        obtain ⟨v10, e_v10, hf⟩ := Option.bind_eq_some_iff.mp hf
        refine k_X12_quotient (a0 := w3) (a1 := w5) (a2 := w1) (res := v10) (hres := e_v10) S tl_X12_185 ⟨Nat.le_of_ble_eq_true rfl, Nat.le_of_ble_eq_true rfl⟩ hl.1 (Nat.le_of_ble_eq_true rfl) dX12_two_94 ?_
        refine lv_lstore (lv' := [(7, .long v10), (0, .ref (r 0)), (1, .int w1), (2, .int w2), (3, .long w3), (5, .long w5)]) hx hb dX12_two_97 hl (by decide) rfl (fun ls hl => ?_)
        exact J_c99 τ w1 w2 w3 w5 v10 H locs ls hf hP hD hS (lv_sub hl [1, 2, 3, 4, 5, 0] rfl)
  have J_c70 : ∀ (τ : MS) (H : Heap) (locs : List Loc) (ls : Array Slot), F_X12_two_c70 τ = some res → va_P z.1 vwCl (mW z r τ) H → va_D A (mW z r τ) → va_S A s.heap H locs → lv_has ls 11 [(0, .ref (r 0))] → W p l e { frames := 3, cells := 0, slots := 0, locals := 72 } s m ([.ref (r 0)] : List Value).toArray below meth c H locs 0 0 Q (F0 m 70 ls []) := by
    intro τ H locs ls hf hP hD hS hl
    unfold F_X12_two_c70 at hf
    refine lv_aload_n hx hb dX12_two_70 rfl (lv_at hl 0 rfl) ?_
    refine k_X12_none S hK hA hP hD hS tl_X12_158 ⟨Nat.le_of_ble_eq_true rfl, Nat.le_of_ble_eq_true rfl⟩ hl.1 (Nat.le_of_ble_eq_true rfl) dX12_two_71 (fun H locs hP hD hS => ?_)
    exact hend (F_X12_none τ) H locs 74 ls (Option.some.inj hf) hP hD hS dX12_two_74
  have J_c48 : ∀ (τ : MS) (w1 : Int32) (w2 : Int32) (w3 : Int64) (w5 : Int64) (H : Heap) (locs : List Loc) (ls : Array Slot), F_X12_two_c48 τ w1 w2 w3 w5 = some res → va_P z.1 vwCl (mW z r τ) H → va_D A (mW z r τ) → va_S A s.heap H locs → lv_has ls 11 [(0, .ref (r 0)), (1, .int w1), (2, .int w2), (3, .long w3), (5, .long w5)] → W p l e { frames := 3, cells := 0, slots := 0, locals := 72 } s m ([.ref (r 0)] : List Value).toArray below meth c H locs 0 0 Q (F0 m 48 ls []) := by
    intro τ w1 w2 w3 w5 H locs ls hf hP hD hS hl
    unfold F_X12_two_c48 at hf
    refine lv_iload_n hx hb dX12_two_48 rfl (lv_at hl 2 rfl) ?_
    refine lv_iconst (v := 2) hx hb dX12_two_49 (by decide) ?_
    refine lv_icmp_eq (tgt := 75) hx hb dX12_two_50 (by decide) (fun c_50 => ?_) (fun c_50 => ?_)
    · rw [if_pos c_50] at hf
      exact J_c75 τ w1 w2 w3 w5 H locs ls hf hP hD hS (lv_sub hl [0, 1, 2, 3, 4] rfl)
    · rw [if_neg c_50] at hf
      refine lv_iload_n hx hb dX12_two_53 rfl (lv_at hl 2 rfl) ?_
      refine lv_iconst (v := 3) hx hb dX12_two_54 (by decide) ?_
      refine lv_icmp_eq (tgt := 75) hx hb dX12_two_55 (by decide) (fun c_55 => ?_) (fun c_55 => ?_)
      · rw [if_pos c_55] at hf
        exact J_c75 τ w1 w2 w3 w5 H locs ls hf hP hD hS (lv_sub hl [0, 1, 2, 3, 4] rfl)
      · rw [if_neg c_55] at hf
        refine lv_iload_n hx hb dX12_two_58 rfl (lv_at hl 2 rfl) ?_
        refine lv_bipush (v := 8) hx hb dX12_two_59 (by decide) ?_
        refine lv_icmp_lt (tgt := 70) hx hb dX12_two_61 (by decide) (fun c_61 => ?_) (fun c_61 => ?_)
        · rw [if_pos c_61] at hf
          exact J_c70 τ H locs ls hf hP hD hS (lv_sub hl [0] rfl)
        · rw [if_neg c_61] at hf
          refine lv_iload_n hx hb dX12_two_64 rfl (lv_at hl 2 rfl) ?_
          refine lv_bipush (v := 11) hx hb dX12_two_65 (by decide) ?_
          refine lv_icmp_le (tgt := 75) hx hb dX12_two_67 (by decide) (fun c_67 => ?_) (fun c_67 => ?_)
          · rw [if_pos c_67] at hf
            exact J_c75 τ w1 w2 w3 w5 H locs ls hf hP hD hS (lv_sub hl [0, 1, 2, 3, 4] rfl)
          · rw [if_neg c_67] at hf
            exact J_c70 τ H locs ls hf hP hD hS (lv_sub hl [0] rfl)
  have J_c30 : ∀ (τ : MS) (w1 : Int32) (w2 : Int32) (w3 : Int64) (H : Heap) (locs : List Loc) (ls : Array Slot), F_X12_two_c30 τ w1 w2 w3 = some res → va_P z.1 vwCl (mW z r τ) H → va_D A (mW z r τ) → va_S A s.heap H locs → lv_has ls 11 [(0, .ref (r 0)), (1, .int w1), (2, .int w2), (3, .long w3)] → W p l e { frames := 3, cells := 0, slots := 0, locals := 72 } s m ([.ref (r 0)] : List Value).toArray below meth c H locs 0 0 Q (F0 m 30 ls []) := by
    intro τ w1 w2 w3 H locs ls hf hP hD hS hl
    unfold F_X12_two_c30 at hf
    refine lv_aload_n hx hb dX12_two_30 rfl (lv_at hl 0 rfl) ?_
    refine lv_aload_n hx hb dX12_two_31 rfl (lv_at hl 0 rfl) ?_
    refine lv_bipush (v := 20) hx hb dX12_two_32 (by decide) ?_
    refine lv_bipush (v := 16) hx hb dX12_two_34 (by decide) ?_
    obtain ⟨v4, e_v4, hf⟩ := Option.bind_eq_some_iff.mp hf
    refine k_X12_f (a0 := (20 : Int32)) (a1 := (16 : Int32)) (res := v4) (hres := e_v4) S hK hP tl_X12_121 ⟨Nat.le_of_ble_eq_true rfl, Nat.le_of_ble_eq_true rfl⟩ hl.1 (Nat.le_of_ble_eq_true rfl) dX12_two_36 ?_
    obtain ⟨v5, e_v5, hf⟩ := Option.bind_eq_some_iff.mp hf
    refine k_X12_reg (a0 := v4) (res := v5) (hres := e_v5) S hK hP tl_X12_161 ⟨Nat.le_of_ble_eq_true rfl, Nat.le_of_ble_eq_true rfl⟩ hl.1 (Nat.le_of_ble_eq_true rfl) dX12_two_39 ?_
    refine lv_iload_n hx hb dX12_two_42 rfl (lv_at hl 1 rfl) ?_
    refine k_X12_cut (a0 := v5) (a1 := w1) S tl_X12_138 ⟨Nat.le_of_ble_eq_true rfl, Nat.le_of_ble_eq_true rfl⟩ hl.1 (Nat.le_of_ble_eq_true rfl) dX12_two_43 ?_
    refine lv_lstore (lv' := [(5, .long (F_X12_cut v5 w1)), (0, .ref (r 0)), (1, .int w1), (2, .int w2), (3, .long w3)]) hx hb dX12_two_46 hl (by decide) rfl (fun ls hl => ?_)
    exact J_c48 τ w1 w2 w3 (F_X12_cut v5 w1) H locs ls hf hP hD hS (lv_sub hl [1, 2, 3, 4, 0] rfl)
  have J_c5 : ∀ (τ : MS) (w1 : Int32) (H : Heap) (locs : List Loc) (ls : Array Slot), F_X12_two_c5 τ w1 = some res → va_P z.1 vwCl (mW z r τ) H → va_D A (mW z r τ) → va_S A s.heap H locs → lv_has ls 11 [(0, .ref (r 0)), (1, .int w1)] → W p l e { frames := 3, cells := 0, slots := 0, locals := 72 } s m ([.ref (r 0)] : List Value).toArray below meth c H locs 0 0 Q (F0 m 5 ls []) := by
    intro τ w1 H locs ls hf hP hD hS hl
    unfold F_X12_two_c5 at hf
    refine lv_aload_n hx hb dX12_two_5 rfl (lv_at hl 0 rfl) ?_
    refine lv_bipush (v := 15) hx hb dX12_two_6 (by decide) ?_
    refine lv_bipush (v := 10) hx hb dX12_two_8 (by decide) ?_
    obtain ⟨v1, e_v1, hf⟩ := Option.bind_eq_some_iff.mp hf
    refine k_X12_f (a0 := (15 : Int32)) (a1 := (10 : Int32)) (res := v1) (hres := e_v1) S hK hP tl_X12_121 ⟨Nat.le_of_ble_eq_true rfl, Nat.le_of_ble_eq_true rfl⟩ hl.1 (Nat.le_of_ble_eq_true rfl) dX12_two_10 ?_
    refine lv_istore_n (lv' := [(2, .int v1), (0, .ref (r 0)), (1, .int w1)]) hx hb dX12_two_13 rfl hl (by decide) rfl (fun ls hl => ?_)
    refine lv_aload_n hx hb dX12_two_14 rfl (lv_at hl 1 rfl) ?_
    refine lv_aload_n hx hb dX12_two_15 rfl (lv_at hl 1 rfl) ?_
    refine lv_bipush (v := 9) hx hb dX12_two_16 (by decide) ?_
    refine lv_iconst (v := 5) hx hb dX12_two_18 (by decide) ?_
    obtain ⟨v2, e_v2, hf⟩ := Option.bind_eq_some_iff.mp hf
    refine k_X12_f (a0 := (9 : Int32)) (a1 := (5 : Int32)) (res := v2) (hres := e_v2) S hK hP tl_X12_121 ⟨Nat.le_of_ble_eq_true rfl, Nat.le_of_ble_eq_true rfl⟩ hl.1 (Nat.le_of_ble_eq_true rfl) dX12_two_19 ?_
    obtain ⟨v3, e_v3, hf⟩ := Option.bind_eq_some_iff.mp hf
    refine k_X12_reg (a0 := v2) (res := v3) (hres := e_v3) S hK hP tl_X12_161 ⟨Nat.le_of_ble_eq_true rfl, Nat.le_of_ble_eq_true rfl⟩ hl.1 (Nat.le_of_ble_eq_true rfl) dX12_two_22 ?_
    refine lv_iload_n hx hb dX12_two_25 rfl (lv_at hl 2 rfl) ?_
    refine k_X12_cut (a0 := v3) (a1 := w1) S tl_X12_138 ⟨Nat.le_of_ble_eq_true rfl, Nat.le_of_ble_eq_true rfl⟩ hl.1 (Nat.le_of_ble_eq_true rfl) dX12_two_26 ?_
    refine lv_lstore_n (lv' := [(3, .long (F_X12_cut v3 w1)), (2, .int v1), (0, .ref (r 0)), (1, .int w1)]) hx hb dX12_two_29 rfl hl (by decide) rfl (fun ls hl => ?_)
    exact J_c30 τ w1 v1 (F_X12_cut v3 w1) H locs ls hf hP hD hS (lv_sub hl [2, 3, 1, 0] rfl)
  unfold F_X12_two at hf
  refine lv_aload_n hx hb dX12_two_0 rfl (lv_at hl 0 rfl) ?_
  refine k_X12_width S hK hP tl_X12_129 ⟨Nat.le_of_ble_eq_true rfl, Nat.le_of_ble_eq_true rfl⟩ hl.1 (Nat.le_of_ble_eq_true rfl) dX12_two_1 ?_
  refine lv_istore_n (lv' := [(1, .int (F_X12_width σ)), (0, .ref (r 0))]) hx hb dX12_two_4 rfl hl (by decide) rfl (fun ls hl => ?_)
  exact J_c5 σ (F_X12_width σ) H locs ls hf hP hD hS (lv_sub hl [1, 0] rfl)
theorem k_X12_two {p : Program} {l : Launch} {e : Env} {R : Room} {s : State} {m : MethodId} {args : Array Value} {below : List Frame} {meth : Method} {c : Code} {H : Heap} {locs : List Loc} {Q : State → Prop} {cc : ByteArray} {pc : Nat} {ls : Array Slot} {rest : List Value} {own : String} {index nL : Nat} {A : Nat → Prop} {z : Cx} {r : Nat → Nat} {σ : MS} {res : MS} (hres : F_X12_two σ = some res) (S : CallFix p m c cc nL s args tbG own) (hK : va_K z.1 vwCl (cxT z) s) (hA : ∀ q, s.heap.size ≤ q → A q) (hP : va_P z.1 vwCl (mW z r σ) H) (hD : va_D A (mW z r σ)) (hS : va_S A s.heap H locs) (hl : Cond.methodLink own index yX12_two ∈ tbG) (hR : 3 + 1 ≤ R.frames ∧ 8 + (11 + 11) + 72 ≤ R.locals) (hsz : ls.size = nL) (hcat : (rest.map fun v => v.category).sum ≤ 8) (hdg : decode cc pc = .ok (.invokevirtual index, 3)) (kk : ∀ (H : Heap) (locs : List Loc), va_P z.1 vwCl (mW z r res) H → va_D A (mW z r res) → va_S A s.heap H locs → W p l e R s m args below meth c H locs 0 0 Q (F0 m (pc + 3) ls (rest))) : W p l e R s m args below meth c H locs 0 0 Q (F0 m pc ls (.ref (r 0) :: rest)) :=
  km (As := []) (ov := none) (w' := mW z r res) (q0 := 0) (ci := 11) S hK hA hP hD hS (c_X12_two l z r σ H.size _ hres) ⟨tb_cB 0 S.2.2.2.2 tc_X12_two ti_X12 hl rfl rfl (by decide +kernel) hR, S.2.2.2.2 _ tm_X12_two, S.2.2.2.2 _ te_X12_two⟩ rfl rfl rfl rfl hsz rfl hcat hdg kk

