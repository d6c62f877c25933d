theorem dX12_near_0 : decode cX12_near 0 = .ok (.iconst 4, 1) := by decide +kernel
theorem dX12_near_1 : decode cX12_near 1 = .ok (.istore_n 1, 1) := by decide +kernel
theorem dX12_near_2 : decode cX12_near 2 = .ok (.aload_n 0, 1) := by decide +kernel
theorem dX12_near_3 : decode cX12_near 3 = .ok (.bipush 30, 2) := by decide +kernel
theorem dX12_near_5 : decode cX12_near 5 = .ok (.invokevirtual 118, 3) := by decide +kernel
theorem dX12_near_8 : decode cX12_near 8 = .ok (.ifCond .eq 6, 3) := by decide +kernel
theorem dX12_near_11 : decode cX12_near 11 = .ok (.bipush 8, 2) := by decide +kernel
theorem dX12_near_13 : decode cX12_near 13 = .ok (.istore_n 1, 1) := by decide +kernel
theorem dX12_near_14 : decode cX12_near 14 = .ok (.aload_n 0, 1) := by decide +kernel
theorem dX12_near_15 : decode cX12_near 15 = .ok (.getfield 22, 3) := by decide +kernel
theorem dX12_near_18 : decode cX12_near 18 = .ok (.iconst 2, 1) := by decide +kernel
theorem dX12_near_19 : decode cX12_near 19 = .ok (.laload, 1) := by decide +kernel
theorem dX12_near_20 : decode cX12_near 20 = .ok (.ldc2_w 90, 3) := by decide +kernel
theorem dX12_near_23 : decode cX12_near 23 = .ok (.aload_n 0, 1) := by decide +kernel
theorem dX12_near_24 : decode cX12_near 24 = .ok (.bipush 23, 2) := by decide +kernel
theorem dX12_near_26 : decode cX12_near 26 = .ok (.iconst 5, 1) := by decide +kernel
theorem dX12_near_27 : decode cX12_near 27 = .ok (.invokevirtual 191, 3) := by decide +kernel
theorem dX12_near_30 : decode cX12_near 30 = .ok (.lmul, 1) := by decide +kernel
theorem dX12_near_31 : decode cX12_near 31 = .ok (.ladd, 1) := by decide +kernel
theorem dX12_near_32 : decode cX12_near 32 = .ok (.lstore_n 2, 1) := by decide +kernel
theorem dX12_near_33 : decode cX12_near 33 = .ok (.aload_n 0, 1) := by decide +kernel
theorem dX12_near_34 : decode cX12_near 34 = .ok (.lload_n 2, 1) := by decide +kernel
theorem dX12_near_35 : decode cX12_near 35 = .ok (.iload_n 1, 1) := by decide +kernel
theorem dX12_near_36 : decode cX12_near 36 = .ok (.iconst 0, 1) := by decide +kernel
theorem dX12_near_37 : decode cX12_near 37 = .ok (.invokevirtual 210, 3) := by decide +kernel
theorem dX12_near_40 : decode cX12_near 40 = .ok (.ifCond .eq 23, 3) := by decide +kernel
theorem dX12_near_43 : decode cX12_near 43 = .ok (.aload_n 0, 1) := by decide +kernel
theorem dX12_near_44 : decode cX12_near 44 = .ok (.aload_n 0, 1) := by decide +kernel
theorem dX12_near_45 : decode cX12_near 45 = .ok (.iconst 4, 1) := by decide +kernel
theorem dX12_near_46 : decode cX12_near 46 = .ok (.iconst 0, 1) := by decide +kernel
theorem dX12_near_47 : decode cX12_near 47 = .ok (.invokevirtual 121, 3) := by decide +kernel
theorem dX12_near_50 : decode cX12_near 50 = .ok (.aload_n 0, 1) := by decide +kernel
theorem dX12_near_51 : decode cX12_near 51 = .ok (.aload_n 0, 1) := by decide +kernel
theorem dX12_near_52 : decode cX12_near 52 = .ok (.getfield 44, 3) := by decide +kernel
theorem dX12_near_55 : decode cX12_near 55 = .ok (.l2i, 1) := by decide +kernel
theorem dX12_near_56 : decode cX12_near 56 = .ok (.iload_n 1, 1) := by decide +kernel
theorem dX12_near_57 : decode cX12_near 57 = .ok (.invokevirtual 64, 3) := by decide +kernel
theorem dX12_near_60 : decode cX12_near 60 = .ok (.invokevirtual 151, 3) := by decide +kernel
theorem dX12_near_63 : decode cX12_near 63 = .ok (.return_, 1) := by decide +kernel
def F_X12_near_c14 (τ : MS) (w1 : Int32) : Option (MS) := ((F_X12_signed τ (23 : Int32) (5 : Int32)).bind fun v1 => ((F_X12_reaches τ ((m_state τ (2 : Int32).toNatClampNeg) + ((4 : Int64) * v1)) w1 false).bind fun v2 => (if v2.1 = true then ((F_X12_f v2.2 (4 : Int32) (0 : Int32)).bind fun v3 => ((F_X12_bytes v2.2 (m_place v2.2).toInt32 w1).bind fun v4 => ((F_X12_put v2.2 v3 v4).bind fun v5 => some (v5)))) else some (v2.2))))
def F_X12_near (σ : MS)  : Option (MS) := (if (F_X12_on σ (30 : Int32)) = true then (F_X12_near_c14 σ (8 : Int32)) else (F_X12_near_c14 σ (4 : Int32)))
set_option maxHeartbeats 4000000 in
set_option maxRecDepth 100000 in
theorem c_X12_near (l : Launch) (z : Cx) (r : Nat → Nat) (σ : MS) (sz : Nat) (res : MS) (hf : F_X12_near σ = some res) : Met l yX12_near (wsC yX12_near cX12_near 4 none) { frames := 4, cells := 0, slots := 0, locals := 103 } (mPc z (mW z r σ) sz [.ref (r 0)]) (gM z (va_A (mW z r σ) sz) none (mW z r res)) 0 0 (va_A (mW z r σ) sz) := by
  refine mk_m_v (own := RX12) (wf := mW z r) (by decide) rfl sz _ (Nat.le_of_ble_eq_true rfl) (fun p e s m below meth c A H locs Q ls S hK hA hP hD hS hl hend => ?_)
  have hx := S.1
  have hb := S.2.1
  have hown := S.2.2.2.1
  have hts := S.2.2.2.2
  have hl : lv_has ls 4 [(0, .ref (r 0))] := hl
  have J_c14 : ∀ (τ : MS) (w1 : Int32) (H : Heap) (locs : List Loc) (ls : Array Slot), F_X12_near_c14 τ w1 = some res → va_P z.1 vwCl (mW z r τ) H → va_D A (mW z r τ) → va_S A s.heap H locs → lv_has ls 4 [(0, .ref (r 0)), (1, .int w1)] → W p l e { frames := 4, cells := 0, slots := 0, locals := 103 } s m ([.ref (r 0)] : List Value).toArray below meth c H locs 0 0 Q (F0 m 14 ls []) := by
    intro τ w1 H locs ls hf hP hD hS hl
    unfold F_X12_near_c14 at hf
    refine lv_aload_n hx hb dX12_near_14 rfl (lv_at hl 0 rfl) ?_
    refine fg_X12_state S hK hP tf_X12_22 dX12_near_15 ?_
    refine lv_iconst (v := 2) hx hb dX12_near_18 (by decide) ?_
    refine al_m_state S hK hP (show vp_in (2 : Int32) 11 by unfold vp_in; decide) dX12_near_19 ?_
    refine lv_ldc2 (v := 4) hx hb hown (hts _ tk_X12_90) dX12_near_20 ?_
    refine lv_aload_n hx hb dX12_near_23 rfl (lv_at hl 0 rfl) ?_
    refine lv_bipush (v := 23) hx hb dX12_near_24 (by decide) ?_
    refine lv_iconst (v := 5) hx hb dX12_near_26 (by decide) ?_
    obtain ⟨v1, e_v1, hf⟩ := Option.bind_eq_some_iff.mp hf
    refine k_X12_signed (a0 := (23 : Int32)) (a1 := (5 : Int32)) (res := v1) (hres := e_v1) S hK hP tl_X12_191 ⟨Nat.le_of_ble_eq_true rfl, Nat.le_of_ble_eq_true rfl⟩ hl.1 (Nat.le_of_ble_eq_true rfl) dX12_near_27 ?_
    refine lv_lmul hx hb dX12_near_30 ?_
    refine lv_ladd hx hb dX12_near_31 ?_
    refine lv_lstore_n (lv' := [(2, .long ((m_state τ (2 : Int32).toNatClampNeg) + ((4 : Int64) * v1))), (0, .ref (r 0)), (1, .int w1)]) hx hb dX12_near_32 rfl hl (by decide) rfl (fun ls hl => ?_)
    refine lv_aload_n hx hb dX12_near_33 rfl (lv_at hl 1 rfl) ?_
    refine lv_lload_n hx hb dX12_near_34 rfl (lv_at hl 0 rfl) ?_
    refine lv_iload_n hx hb dX12_near_35 rfl (lv_at hl 2 rfl) ?_
    refine lv_iconst (v := 0) hx hb dX12_near_36 (by decide) ?_
    obtain ⟨v2, e_v2, hf⟩ := Option.bind_eq_some_iff.mp hf
    refine k_X12_reaches (a0 := ((m_state τ (2 : Int32).toNatClampNeg) + ((4 : Int64) * v1))) (a1 := w1) (a2 := false) (res := v2) (hres := e_v2) S hK hA hP hD hS tl_X12_210 ⟨Nat.le_of_ble_eq_true rfl, Nat.le_of_ble_eq_true rfl⟩ hl.1 (Nat.le_of_ble_eq_true rfl) dX12_near_37 (fun H locs hP hD hS => ?_)
    refine gz_eq (tgt := 63) hx hb dX12_near_40 (by decide) (fun c_40 => ?_) (fun c_40 => ?_)
    · rw [if_neg c_40] at hf
      exact hend v2.2 H locs 63 ls (Option.some.inj hf) hP hD hS dX12_near_63
    · rw [if_pos c_40] at hf
      refine lv_aload_n hx hb dX12_near_43 rfl (lv_at hl 1 rfl) ?_
      refine lv_aload_n hx hb dX12_near_44 rfl (lv_at hl 1 rfl) ?_
      refine lv_iconst (v := 4) hx hb dX12_near_45 (by decide) ?_
      refine lv_iconst (v := 0) hx hb dX12_near_46 (by decide) ?_
      obtain ⟨v3, e_v3, hf⟩ := Option.bind_eq_some_iff.mp hf
      refine k_X12_f (a0 := (4 : Int32)) (a1 := (0 : Int32)) (res := v3) (hres := e_v3) S hK hP tl_X12_121 ⟨Nat.le_of_ble_eq_true rfl, Nat.le_of_ble_eq_true rfl⟩ hl.1 (Nat.le_of_ble_eq_true rfl) dX12_near_47 ?_
      refine lv_aload_n hx hb dX12_near_50 rfl (lv_at hl 1 rfl) ?_
      refine lv_aload_n hx hb dX12_near_51 rfl (lv_at hl 1 rfl) ?_
      refine fg_X12_place S hK hP tf_X12_44 dX12_near_52 ?_
      refine lv_l2i hx hb dX12_near_55 rfl ?_
      refine lv_iload_n hx hb dX12_near_56 rfl (lv_at hl 2 rfl) ?_
      obtain ⟨v4, e_v4, hf⟩ := Option.bind_eq_some_iff.mp hf
      refine k_X12_bytes (a0 := (m_place v2.2).toInt32) (a1 := w1) (res := v4) (hres := e_v4) S hK hP tl_X12_64 ⟨Nat.le_of_ble_eq_true rfl, Nat.le_of_ble_eq_true rfl⟩ hl.1 (Nat.le_of_ble_eq_true rfl) dX12_near_57 ?_
      obtain ⟨v5, e_v5, hf⟩ := Option.bind_eq_some_iff.mp hf
      refine k_X12_put (a0 := v3) (a1 := v4) (res := v5) (hres := e_v5) S hK hA hP hD hS tl_X12_151 ⟨Nat.le_of_ble_eq_true rfl, Nat.le_of_ble_eq_true rfl⟩ hl.1 (Nat.le_of_ble_eq_true rfl) dX12_near_60 (fun H locs hP hD hS => ?_)
      exact hend v5 H locs 63 ls (Option.some.inj hf) hP hD hS dX12_near_63
  unfold F_X12_near at hf
  refine lv_iconst (v := 4) hx hb dX12_near_0 (by decide) ?_
  refine lv_istore_n (lv' := [(1, .int (4 : Int32)), (0, .ref (r 0))]) hx hb dX12_near_1 rfl hl (by decide) rfl (fun ls hl => ?_)
  refine lv_aload_n hx hb dX12_near_2 rfl (lv_at hl 1 rfl) ?_
  refine lv_bipush (v := 30) hx hb dX12_near_3 (by decide) ?_
  refine k_X12_on (a0 := (30 : Int32)) S hK hP tl_X12_118 ⟨Nat.le_of_ble_eq_true rfl, Nat.le_of_ble_eq_true rfl⟩ hl.1 (Nat.le_of_ble_eq_true rfl) dX12_near_5 ?_
  refine gz_eq (tgt := 14) hx hb dX12_near_8 (by decide) (fun c_8 => ?_) (fun c_8 => ?_)
  · rw [if_neg c_8] at hf
    exact J_c14 σ (4 : Int32) H locs ls hf hP hD hS (lv_sub hl [1, 0] rfl)
  · rw [if_pos c_8] at hf
    refine lv_bipush (v := 8) hx hb dX12_near_11 (by decide) ?_
    refine lv_istore_n (lv' := [(1, .int (8 : Int32)), (0, .ref (r 0))]) hx hb dX12_near_13 rfl hl (by decide) rfl (fun ls hl => ?_)
    exact J_c14 σ (8 : Int32) H locs ls hf hP hD hS (lv_sub hl [1, 0] rfl)
theorem k_X12_near {p : Program} {l : Launch} {e : Env} {R : Room} {s : State} {m : MethodId} {args : Array Value} {below : List Frame} {meth : Method} {c : Code} {H : Heap} {locs : List Loc} {Q : State → Prop} {cc : ByteArray} {pc : Nat} {ls : Array Slot} {rest : List Value} {own : String} {index nL : Nat} {A : Nat → Prop} {z : Cx} {r : Nat → Nat} {σ : MS} {res : MS} (hres : F_X12_near σ = some res) (S : CallFix p m c cc nL s args tbG own) (hK : va_K z.1 vwCl (cxT z) s) (hA : ∀ q, s.heap.size ≤ q → A q) (hP : va_P z.1 vwCl (mW z r σ) H) (hD : va_D A (mW z r σ)) (hS : va_S A s.heap H locs) (hl : Cond.methodLink own index yX12_near ∈ tbG) (hR : 4 + 1 ≤ R.frames ∧ 8 + (4 + 11) + 103 ≤ R.locals) (hsz : ls.size = nL) (hcat : (rest.map fun v => v.category).sum ≤ 8) (hdg : decode cc pc = .ok (.invokevirtual index, 3)) (kk : ∀ (H : Heap) (locs : List Loc), va_P z.1 vwCl (mW z r res) H → va_D A (mW z r res) → va_S A s.heap H locs → W p l e R s m args below meth c H locs 0 0 Q (F0 m (pc + 3) ls (rest))) : W p l e R s m args below meth c H locs 0 0 Q (F0 m pc ls (.ref (r 0) :: rest)) :=
  km (As := []) (ov := none) (w' := mW z r res) (q0 := 0) (ci := 11) S hK hA hP hD hS (c_X12_near l z r σ H.size _ hres) ⟨tb_cB 0 S.2.2.2.2 tc_X12_near ti_X12 hl rfl rfl (by decide +kernel) hR, S.2.2.2.2 _ tm_X12_near, S.2.2.2.2 _ te_X12_near⟩ rfl rfl rfl rfl hsz rfl hcat hdg kk

theorem dX12_back_0 : decode cX12_back 0 = .ok (.aload_n 0, 1) := by decide +kernel
theorem dX12_back_1 : decode cX12_back 1 = .ok (.getfield 28, 3) := by decide +kernel
theorem dX12_back_4 : decode cX12_back 4 = .ok (.ifCond .ne 8, 3) := by decide +kernel
theorem dX12_back_7 : decode cX12_back 7 = .ok (.aload_n 0, 1) := by decide +kernel
theorem dX12_back_8 : decode cX12_back 8 = .ok (.invokevirtual 158, 3) := by decide +kernel
theorem dX12_back_11 : decode cX12_back 11 = .ok (.return_, 1) := by decide +kernel
theorem dX12_back_12 : decode cX12_back 12 = .ok (.aload_n 0, 1) := by decide +kernel
theorem dX12_back_13 : decode cX12_back 13 = .ok (.getfield 22, 3) := by decide +kernel
theorem dX12_back_16 : decode cX12_back 16 = .ok (.bipush 7, 2) := by decide +kernel
theorem dX12_back_18 : decode cX12_back 18 = .ok (.laload, 1) := by decide +kernel
theorem dX12_back_19 : decode cX12_back 19 = .ok (.ldc2_w 198, 3) := by decide +kernel
theorem dX12_back_22 : decode cX12_back 22 = .ok (.land, 1) := by decide +kernel
theorem dX12_back_23 : decode cX12_back 23 = .ok (.l2i, 1) := by decide +kernel
theorem dX12_back_24 : decode cX12_back 24 = .ok (.istore_n 1, 1) := by decide +kernel
theorem dX12_back_25 : decode cX12_back 25 = .ok (.iload_n 1, 1) := by decide +kernel
theorem dX12_back_26 : decode cX12_back 26 = .ok (.ifCond .eq 27, 3) := by decide +kernel
theorem dX12_back_29 : decode cX12_back 29 = .ok (.iload_n 1, 1) := by decide +kernel
theorem dX12_back_30 : decode cX12_back 30 = .ok (.iconst 4, 1) := by decide +kernel
theorem dX12_back_31 : decode cX12_back 31 = .ok (.if_icmp .eq 22, 3) := by decide +kernel
theorem dX12_back_34 : decode cX12_back 34 = .ok (.iload_n 1, 1) := by decide +kernel
theorem dX12_back_35 : decode cX12_back 35 = .ok (.iconst 5, 1) := by decide +kernel
theorem dX12_back_36 : decode cX12_back 36 = .ok (.if_icmp .eq 17, 3) := by decide +kernel
theorem dX12_back_39 : decode cX12_back 39 = .ok (.aload_n 0, 1) := by decide +kernel
theorem dX12_back_40 : decode cX12_back 40 = .ok (.bipush 14, 2) := by decide +kernel
theorem dX12_back_42 : decode cX12_back 42 = .ok (.lconst 0, 1) := by decide +kernel
theorem dX12_back_43 : decode cX12_back 43 = .ok (.aload_n 0, 1) := by decide +kernel
theorem dX12_back_44 : decode cX12_back 44 = .ok (.getfield 22, 3) := by decide +kernel
theorem dX12_back_47 : decode cX12_back 47 = .ok (.iconst 2, 1) := by decide +kernel
theorem dX12_back_48 : decode cX12_back 48 = .ok (.laload, 1) := by decide +kernel
theorem dX12_back_49 : decode cX12_back 49 = .ok (.invokevirtual 106, 3) := by decide +kernel
theorem dX12_back_52 : decode cX12_back 52 = .ok (.return_, 1) := by decide +kernel
theorem dX12_back_53 : decode cX12_back 53 = .ok (.aload_n 0, 1) := by decide +kernel
theorem dX12_back_54 : decode cX12_back 54 = .ok (.aload_n 0, 1) := by decide +kernel
theorem dX12_back_55 : decode cX12_back 55 = .ok (.getfield 22, 3) := by decide +kernel
theorem dX12_back_58 : decode cX12_back 58 = .ok (.bipush 7, 2) := by decide +kernel
theorem dX12_back_60 : decode cX12_back 60 = .ok (.laload, 1) := by decide +kernel
theorem dX12_back_61 : decode cX12_back 61 = .ok (.bipush 31, 2) := by decide +kernel
theorem dX12_back_63 : decode cX12_back 63 = .ok (.bipush 28, 2) := by decide +kernel
theorem dX12_back_65 : decode cX12_back 65 = .ok (.invokestatic 72, 3) := by decide +kernel
theorem dX12_back_68 : decode cX12_back 68 = .ok (.l2i, 1) := by decide +kernel
theorem dX12_back_69 : decode cX12_back 69 = .ok (.putfield 25, 3) := by decide +kernel
theorem dX12_back_72 : decode cX12_back 72 = .ok (.aload_n 0, 1) := by decide +kernel
theorem dX12_back_73 : decode cX12_back 73 = .ok (.aload_n 0, 1) := by decide +kernel
theorem dX12_back_74 : decode cX12_back 74 = .ok (.getfield 22, 3) := by decide +kernel
theorem dX12_back_77 : decode cX12_back 77 = .ok (.bipush 7, 2) := by decide +kernel
theorem dX12_back_79 : decode cX12_back 79 = .ok (.laload, 1) := by decide +kernel
theorem dX12_back_80 : decode cX12_back 80 = .ok (.bipush 7, 2) := by decide +kernel
theorem dX12_back_82 : decode cX12_back 82 = .ok (.bipush 7, 2) := by decide +kernel
theorem dX12_back_84 : decode cX12_back 84 = .ok (.invokestatic 72, 3) := by decide +kernel
theorem dX12_back_87 : decode cX12_back 87 = .ok (.l2i, 1) := by decide +kernel
theorem dX12_back_88 : decode cX12_back 88 = .ok (.putfield 34, 3) := by decide +kernel
theorem dX12_back_91 : decode cX12_back 91 = .ok (.aload_n 0, 1) := by decide +kernel
theorem dX12_back_92 : decode cX12_back 92 = .ok (.iconst 1, 1) := by decide +kernel
theorem dX12_back_93 : decode cX12_back 93 = .ok (.putfield 28, 3) := by decide +kernel
theorem dX12_back_96 : decode cX12_back 96 = .ok (.aload_n 0, 1) := by decide +kernel
theorem dX12_back_97 : decode cX12_back 97 = .ok (.iload_n 1, 1) := by decide +kernel
theorem dX12_back_98 : decode cX12_back 98 = .ok (.iconst 1, 1) := by decide +kernel
theorem dX12_back_99 : decode cX12_back 99 = .ok (.iand, 1) := by decide +kernel
theorem dX12_back_100 : decode cX12_back 100 = .ok (.putfield 31, 3) := by decide +kernel
theorem dX12_back_103 : decode cX12_back 103 = .ok (.iload_n 1, 1) := by decide +kernel
theorem dX12_back_104 : decode cX12_back 104 = .ok (.ifCond .ne 8, 3) := by decide +kernel
theorem dX12_back_107 : decode cX12_back 107 = .ok (.aload_n 0, 1) := by decide +kernel
theorem dX12_back_108 : decode cX12_back 108 = .ok (.iconst 0, 1) := by decide +kernel
theorem dX12_back_109 : decode cX12_back 109 = .ok (.putfield 28, 3) := by decide +kernel
theorem dX12_back_112 : decode cX12_back 112 = .ok (.aload_n 0, 1) := by decide +kernel
theorem dX12_back_113 : decode cX12_back 113 = .ok (.aload_n 0, 1) := by decide +kernel
theorem dX12_back_114 : decode cX12_back 114 = .ok (.getfield 22, 3) := by decide +kernel
theorem dX12_back_117 : decode cX12_back 117 = .ok (.bipush 6, 2) := by decide +kernel
theorem dX12_back_119 : decode cX12_back 119 = .ok (.laload, 1) := by decide +kernel
theorem dX12_back_120 : decode cX12_back 120 = .ok (.invokevirtual 194, 3) := by decide +kernel
theorem dX12_back_123 : decode cX12_back 123 = .ok (.return_, 1) := by decide +kernel
def F_X12_back_c112 (τ : MS) : Option (MS) := some ((F_X12_goes τ (m_state τ (6 : Int32).toNatClampNeg)))
def F_X12_back_c53 (τ : MS) (w1 : Int32) : Option (MS) := ((F_X12_bits (m_state τ (7 : Int32).toNatClampNeg) (31 : Int32) (28 : Int32)).bind fun v1 => ((F_X12_bits (m_state (mu_flags τ v1.toInt32) (7 : Int32).toNatClampNeg) (7 : Int32) (7 : Int32)).bind fun v2 => (if w1 = 0 then (F_X12_back_c112 (mu_level (mu_select (mu_level (mu_masked (mu_flags τ v1.toInt32) v2.toInt32) (1 : Int32)) (w1 &&& (1 : Int32))) (0 : Int32))) else (F_X12_back_c112 (mu_select (mu_level (mu_masked (mu_flags τ v1.toInt32) v2.toInt32) (1 : Int32)) (w1 &&& (1 : Int32)))))))
def F_X12_back_c25 (τ : MS) (w1 : Int32) : Option (MS) := (if w1 = 0 then (F_X12_back_c53 τ w1) else (if w1 = (4 : Int32) then (F_X12_back_c53 τ w1) else (if w1 = (5 : Int32) then (F_X12_back_c53 τ w1) else some ((F_X12_exception τ (14 : Int32) (0 : Int64) (m_state τ (2 : Int32).toNatClampNeg))))))
def F_X12_back (σ : MS)  : Option (MS) := (if (m_level σ) = 0 then some ((F_X12_none σ)) else (F_X12_back_c25 σ ((m_state σ (7 : Int32).toNatClampNeg) &&& (15 : Int64)).toInt32))
set_option maxHeartbeats 4000000 in
set_option maxRecDepth 100000 in
theorem c_X12_back (l : Launch) (z : Cx) (r : Nat → Nat) (σ : MS) (sz : Nat) (res : MS) (hf : F_X12_back σ = some res) : Met l yX12_back (wsC yX12_back cX12_back 2 none) { frames := 3, cells := 0, slots := 0, locals := 72 } (mPc z (mW z r σ) sz [.ref (r 0)]) (gM z (va_A (mW z r σ) sz) none (mW z r res)) 0 0 (va_A (mW z r σ) sz) := by
  refine mk_m_v (own := RX12) (wf := mW z r) (by decide) rfl sz _ (Nat.le_of_ble_eq_true rfl) (fun p e s m below meth c A H locs Q ls S hK hA hP hD hS hl hend => ?_)
  have hx := S.1
  have hb := S.2.1
  have hown := S.2.2.2.1
  have hts := S.2.2.2.2
  have hl : lv_has ls 2 [(0, .ref (r 0))] := hl
  have J_c112 : ∀ (τ : MS) (H : Heap) (locs : List Loc) (ls : Array Slot), F_X12_back_c112 τ = some res → va_P z.1 vwCl (mW z r τ) H → va_D A (mW z r τ) → va_S A s.heap H locs → lv_has ls 2 [(0, .ref (r 0))] → W p l e { frames := 3, cells := 0, slots := 0, locals := 72 } s m ([.ref (r 0)] : List Value).toArray below meth c H locs 0 0 Q (F0 m 112 ls []) := by
    intro τ H locs ls hf hP hD hS hl
    unfold F_X12_back_c112 at hf
    refine lv_aload_n hx hb dX12_back_112 rfl (lv_at hl 0 rfl) ?_
    refine lv_aload_n hx hb dX12_back_113 rfl (lv_at hl 0 rfl) ?_
    refine fg_X12_state S hK hP tf_X12_22 dX12_back_114 ?_
    refine lv_bipush (v := 6) hx hb dX12_back_117 (by decide) ?_
    refine al_m_state S hK hP (show vp_in (6 : Int32) 11 by unfold vp_in; decide) dX12_back_119 ?_
    refine k_X12_goes (a0 := (m_state τ (6 : Int32).toNatClampNeg)) S hK hA hP hD hS tl_X12_194 ⟨Nat.le_of_ble_eq_true rfl, Nat.le_of_ble_eq_true rfl⟩ hl.1 (Nat.le_of_ble_eq_true rfl) dX12_back_120 (fun H locs hP hD hS => ?_)
    exact hend (F_X12_goes τ (m_state τ (6 : Int32).toNatClampNeg)) H locs 123 ls (Option.some.inj hf) hP hD hS dX12_back_123
  have J_c53 : ∀ (τ : MS) (w1 : Int32) (H : Heap) (locs : List Loc) (ls : Array Slot), F_X12_back_c53 τ w1 = some res → va_P z.1 vwCl (mW z r τ) H → va_D A (mW z r τ) → va_S A s.heap H locs → lv_has ls 2 [(0, .ref (r 0)), (1, .int w1)] → W p l e { frames := 3, cells := 0, slots := 0, locals := 72 } s m ([.ref (r 0)] : List Value).toArray below meth c H locs 0 0 Q (F0 m 53 ls []) := by
    intro τ w1 H locs ls hf hP hD hS hl
    unfold F_X12_back_c53 at hf
    refine lv_aload_n hx hb dX12_back_53 rfl (lv_at hl 0 rfl) ?_
    refine lv_aload_n hx hb dX12_back_54 rfl (lv_at hl 0 rfl) ?_
    refine fg_X12_state S hK hP tf_X12_22 dX12_back_55 ?_
    refine lv_bipush (v := 7) hx hb dX12_back_58 (by decide) ?_
    refine al_m_state S hK hP (show vp_in (7 : Int32) 11 by unfold vp_in; decide) dX12_back_60 ?_
    refine lv_bipush (v := 31) hx hb dX12_back_61 (by decide) ?_
    refine lv_bipush (v := 28) hx hb dX12_back_63 (by decide) ?_
    obtain ⟨v1, e_v1, hf⟩ := Option.bind_eq_some_iff.mp hf
    refine k_X12_bits (a0 := (m_state τ (7 : Int32).toNatClampNeg)) (a1 := (31 : Int32)) (a2 := (28 : Int32)) (res := v1) (hres := e_v1) S tl_X12_72 ⟨Nat.le_of_ble_eq_true rfl, Nat.le_of_ble_eq_true rfl⟩ hl.1 (Nat.le_of_ble_eq_true rfl) dX12_back_65 ?_
    refine lv_l2i hx hb dX12_back_68 rfl ?_
    refine fp_X12_flags (v := v1.toInt32) S hK hP hD hS tf_X12_25 dX12_back_69 (fun H locs hP hD hS => ?_)
    refine lv_aload_n hx hb dX12_back_72 rfl (lv_at hl 0 rfl) ?_
    refine lv_aload_n hx hb dX12_back_73 rfl (lv_at hl 0 rfl) ?_
    refine fg_X12_state S hK hP tf_X12_22 dX12_back_74 ?_
    refine lv_bipush (v := 7) hx hb dX12_back_77 (by decide) ?_
    refine al_m_state S hK hP (show vp_in (7 : Int32) 11 by unfold vp_in; decide) dX12_back_79 ?_
    refine lv_bipush (v := 7) hx hb dX12_back_80 (by decide) ?_
    refine lv_bipush (v := 7) hx hb dX12_back_82 (by decide) ?_
    obtain ⟨v2, e_v2, hf⟩ := Option.bind_eq_some_iff.mp hf
    refine k_X12_bits (a0 := (m_state (mu_flags τ v1.toInt32) (7 : Int32).toNatClampNeg)) (a1 := (7 : Int32)) (a2 := (7 : Int32)) (res := v2) (hres := e_v2) S tl_X12_72 ⟨Nat.le_of_ble_eq_true rfl, Nat.le_of_ble_eq_true rfl⟩ hl.1 (Nat.le_of_ble_eq_true rfl) dX12_back_84 ?_
    refine lv_l2i hx hb dX12_back_87 rfl ?_
    refine fp_X12_masked (v := v2.toInt32) S hK hP hD hS tf_X12_34 dX12_back_88 (fun H locs hP hD hS => ?_)
    refine lv_aload_n hx hb dX12_back_91 rfl (lv_at hl 0 rfl) ?_
    refine lv_iconst (v := 1) hx hb dX12_back_92 (by decide) ?_
    refine fp_X12_level (v := (1 : Int32)) S hK hP hD hS tf_X12_28 dX12_back_93 (fun H locs hP hD hS => ?_)
    refine lv_aload_n hx hb dX12_back_96 rfl (lv_at hl 0 rfl) ?_
    refine lv_iload_n hx hb dX12_back_97 rfl (lv_at hl 1 rfl) ?_
    refine lv_iconst (v := 1) hx hb dX12_back_98 (by decide) ?_
    refine lv_iand hx hb dX12_back_99 ?_
    refine fp_X12_select (v := (w1 &&& (1 : Int32))) S hK hP hD hS tf_X12_31 dX12_back_100 (fun H locs hP hD hS => ?_)
    refine lv_iload_n hx hb dX12_back_103 rfl (lv_at hl 1 rfl) ?_
    refine lv_if_ne (tgt := 112) hx hb dX12_back_104 (by decide) (fun c_104 => ?_) (fun c_104 => ?_)
    · rw [if_neg c_104] at hf
      exact J_c112 (mu_select (mu_level (mu_masked (mu_flags τ v1.toInt32) v2.toInt32) (1 : Int32)) (w1 &&& (1 : Int32))) H locs ls hf hP hD hS (lv_sub hl [0] rfl)
    · rw [if_pos c_104] at hf
      refine lv_aload_n hx hb dX12_back_107 rfl (lv_at hl 0 rfl) ?_
      refine lv_iconst (v := 0) hx hb dX12_back_108 (by decide) ?_
      refine fp_X12_level (v := (0 : Int32)) S hK hP hD hS tf_X12_28 dX12_back_109 (fun H locs hP hD hS => ?_)
      exact J_c112 (mu_level (mu_select (mu_level (mu_masked (mu_flags τ v1.toInt32) v2.toInt32) (1 : Int32)) (w1 &&& (1 : Int32))) (0 : Int32)) H locs ls hf hP hD hS (lv_sub hl [0] rfl)
  have J_c25 : ∀ (τ : MS) (w1 : Int32) (H : Heap) (locs : List Loc) (ls : Array Slot), F_X12_back_c25 τ w1 = some res → va_P z.1 vwCl (mW z r τ) H → va_D A (mW z r τ) → va_S A s.heap H locs → lv_has ls 2 [(0, .ref (r 0)), (1, .int w1)] → W p l e { frames := 3, cells := 0, slots := 0, locals := 72 } s m ([.ref (r 0)] : List Value).toArray below meth c H locs 0 0 Q (F0 m 25 ls []) := by
    intro τ w1 H locs ls hf hP hD hS hl
    unfold F_X12_back_c25 at hf
    refine lv_iload_n hx hb dX12_back_25 rfl (lv_at hl 1 rfl) ?_
    refine lv_if_eq (tgt := 53) hx hb dX12_back_26 (by decide) (fun c_26 => ?_) (fun c_26 => ?_)
    · rw [if_pos c_26] at hf
      exact J_c53 τ w1 H locs ls hf hP hD hS (lv_sub hl [0, 1] rfl)
    · rw [if_neg c_26] at hf
      refine lv_iload_n hx hb dX12_back_29 rfl (lv_at hl 1 rfl) ?_
      refine lv_iconst (v := 4) hx hb dX12_back_30 (by decide) ?_
      refine lv_icmp_eq (tgt := 53) hx hb dX12_back_31 (by decide) (fun c_31 => ?_) (fun c_31 => ?_)
      · rw [if_pos c_31] at hf
        exact J_c53 τ w1 H locs ls hf hP hD hS (lv_sub hl [0, 1] rfl)
      · rw [if_neg c_31] at hf
        refine lv_iload_n hx hb dX12_back_34 rfl (lv_at hl 1 rfl) ?_
        refine lv_iconst (v := 5) hx hb dX12_back_35 (by decide) ?_
        refine lv_icmp_eq (tgt := 53) hx hb dX12_back_36 (by decide) (fun c_36 => ?_) (fun c_36 => ?_)
        · rw [if_pos c_36] at hf
          exact J_c53 τ w1 H locs ls hf hP hD hS (lv_sub hl [0, 1] rfl)
        · rw [if_neg c_36] at hf
          refine lv_aload_n hx hb dX12_back_39 rfl (lv_at hl 0 rfl) ?_
          refine lv_bipush (v := 14) hx hb dX12_back_40 (by decide) ?_
          refine lv_lconst (v := 0) hx hb dX12_back_42 (by decide) ?_
          refine lv_aload_n hx hb dX12_back_43 rfl (lv_at hl 0 rfl) ?_
          refine fg_X12_state S hK hP tf_X12_22 dX12_back_44 ?_
          refine lv_iconst (v := 2) hx hb dX12_back_47 (by decide) ?_
          refine al_m_state S hK hP (show vp_in (2 : Int32) 11 by unfold vp_in; decide) dX12_back_48 ?_
          refine k_X12_exception (a0 := (14 : Int32)) (a1 := (0 : Int64)) (a2 := (m_state τ (2 : Int32).toNatClampNeg)) S hK hA hP hD hS tl_X12_106 ⟨Nat.le_of_ble_eq_true rfl, Nat.le_of_ble_eq_true rfl⟩ hl.1 (Nat.le_of_ble_eq_true rfl) dX12_back_49 (fun H locs hP hD hS => ?_)
          exact hend (F_X12_exception τ (14 : Int32) (0 : Int64) (m_state τ (2 : Int32).toNatClampNeg)) H locs 52 ls (Option.some.inj hf) hP hD hS dX12_back_52
  unfold F_X12_back at hf
  refine lv_aload_n hx hb dX12_back_0 rfl (lv_at hl 0 rfl) ?_
  refine fg_X12_level S hK hP tf_X12_28 dX12_back_1 ?_
  refine lv_if_ne (tgt := 12) hx hb dX12_back_4 (by decide) (fun c_4 => ?_) (fun c_4 => ?_)
  · rw [if_neg c_4] at hf
    refine lv_aload_n hx hb dX12_back_12 rfl (lv_at hl 0 rfl) ?_
    refine fg_X12_state S hK hP tf_X12_22 dX12_back_13 ?_
    refine lv_bipush (v := 7) hx hb dX12_back_16 (by decide) ?_
    refine al_m_state S hK hP (show vp_in (7 : Int32) 11 by unfold vp_in; decide) dX12_back_18 ?_
    refine lv_ldc2 (v := 15) hx hb hown (hts _ tk_X12_198) dX12_back_19 ?_
    refine lv_land hx hb dX12_back_22 ?_
    refine lv_l2i hx hb dX12_back_23 rfl ?_
    refine lv_istore_n (lv' := [(1, .int ((m_state σ (7 : Int32).toNatClampNeg) &&& (15 : Int64)).toInt32), (0, .ref (r 0))]) hx hb dX12_back_24 rfl hl (by decide) rfl (fun ls hl => ?_)
    exact J_c25 σ ((m_state σ (7 : Int32).toNatClampNeg) &&& (15 : Int64)).toInt32 H locs ls hf hP hD hS (lv_sub hl [1, 0] rfl)
  · rw [if_pos c_4] at hf
    refine lv_aload_n hx hb dX12_back_7 rfl (lv_at hl 0 rfl) ?_
    refine k_X12_none S hK hA hP hD hS tl_X12_158 ⟨Nat.le_of_ble_eq_true rfl, Nat.le_of_ble_eq_true rfl⟩ hl.1 (Nat.le_of_ble_eq_true rfl) dX12_back_8 (fun H locs hP hD hS => ?_)
    exact hend (F_X12_none σ) H locs 11 ls (Option.some.inj hf) hP hD hS dX12_back_11
theorem k_X12_back {p : Program} {l : Launch} {e : Env} {R : Room} {s : State} {m : MethodId} {args : Array Value} {below : List Frame} {meth : Method} {c : Code} {H : Heap} {locs : List Loc} {Q : State → Prop} {cc : ByteArray} {pc : Nat} {ls : Array Slot} {rest : List Value} {own : String} {index nL : Nat} {A : Nat → Prop} {z : Cx} {r : Nat → Nat} {σ : MS} {res : MS} (hres : F_X12_back σ = some res) (S : CallFix p m c cc nL s args tbG own) (hK : va_K z.1 vwCl (cxT z) s) (hA : ∀ q, s.heap.size ≤ q → A q) (hP : va_P z.1 vwCl (mW z r σ) H) (hD : va_D A (mW z r σ)) (hS : va_S A s.heap H locs) (hl : Cond.methodLink own index yX12_back ∈ tbG) (hR : 3 + 1 ≤ R.frames ∧ 8 + (2 + 11) + 72 ≤ R.locals) (hsz : ls.size = nL) (hcat : (rest.map fun v => v.category).sum ≤ 8) (hdg : decode cc pc = .ok (.invokevirtual index, 3)) (kk : ∀ (H : Heap) (locs : List Loc), va_P z.1 vwCl (mW z r res) H → va_D A (mW z r res) → va_S A s.heap H locs → W p l e R s m args below meth c H locs 0 0 Q (F0 m (pc + 3) ls (rest))) : W p l e R s m args below meth c H locs 0 0 Q (F0 m pc ls (.ref (r 0) :: rest)) :=
  km (As := []) (ov := none) (w' := mW z r res) (q0 := 0) (ci := 11) S hK hA hP hD hS (c_X12_back l z r σ H.size _ hres) ⟨tb_cB 0 S.2.2.2.2 tc_X12_back ti_X12 hl rfl rfl (by decide +kernel) hR, S.2.2.2.2 _ tm_X12_back, S.2.2.2.2 _ te_X12_back⟩ rfl rfl rfl rfl hsz rfl hcat hdg kk

theorem dX12_slot_0 : decode cX12_slot 0 = .ok (.iload_n 0, 1) := by decide +kernel
theorem dX12_slot_1 : decode cX12_slot 1 = .ok (.sipush 128, 3) := by decide +kernel
theorem dX12_slot_4 : decode cX12_slot 4 = .ok (.if_icmp .ne 5, 3) := by decide +kernel
theorem dX12_slot_7 : decode cX12_slot 7 = .ok (.iconst 3, 1) := by decide +kernel
theorem dX12_slot_8 : decode cX12_slot 8 = .ok (.ireturn, 1) := by decide +kernel
theorem dX12_slot_9 : decode cX12_slot 9 = .ok (.iload_n 0, 1) := by decide +kernel
theorem dX12_slot_10 : decode cX12_slot 10 = .ok (.sipush 256, 3) := by decide +kernel
theorem dX12_slot_13 : decode cX12_slot 13 = .ok (.if_icmp .ne 5, 3) := by decide +kernel
theorem dX12_slot_16 : decode cX12_slot 16 = .ok (.iconst 4, 1) := by decide +kernel
theorem dX12_slot_17 : decode cX12_slot 17 = .ok (.ireturn, 1) := by decide +kernel
theorem dX12_slot_18 : decode cX12_slot 18 = .ok (.iload_n 0, 1) := by decide +kernel
theorem dX12_slot_19 : decode cX12_slot 19 = .ok (.sipush 520, 3) := by decide +kernel
theorem dX12_slot_22 : decode cX12_slot 22 = .ok (.if_icmp .ne 5, 3) := by decide +kernel
theorem dX12_slot_25 : decode cX12_slot 25 = .ok (.iconst 0, 1) := by decide +kernel
theorem dX12_slot_26 : decode cX12_slot 26 = .ok (.ireturn, 1) := by decide +kernel
theorem dX12_slot_27 : decode cX12_slot 27 = .ok (.iload_n 0, 1) := by decide +kernel
theorem dX12_slot_28 : decode cX12_slot 28 = .ok (.sipush 512, 3) := by decide +kernel
theorem dX12_slot_31 : decode cX12_slot 31 = .ok (.if_icmp .ne 6, 3) := by decide +kernel
theorem dX12_slot_34 : decode cX12_slot 34 = .ok (.bipush 7, 2) := by decide +kernel
theorem dX12_slot_36 : decode cX12_slot 36 = .ok (.ireturn, 1) := by decide +kernel
theorem dX12_slot_37 : decode cX12_slot 37 = .ok (.iload_n 0, 1) := by decide +kernel
theorem dX12_slot_38 : decode cX12_slot 38 = .ok (.sipush 513, 3) := by decide +kernel
theorem dX12_slot_41 : decode cX12_slot 41 = .ok (.if_icmp .ne 6, 3) := by decide +kernel
theorem dX12_slot_44 : decode cX12_slot 44 = .ok (.bipush 6, 2) := by decide +kernel
theorem dX12_slot_46 : decode cX12_slot 46 = .ok (.ireturn, 1) := by decide +kernel
theorem dX12_slot_47 : decode cX12_slot 47 = .ok (.iload_n 0, 1) := by decide +kernel
theorem dX12_slot_48 : decode cX12_slot 48 = .ok (.sipush 656, 3) := by decide +kernel
theorem dX12_slot_51 : decode cX12_slot 51 = .ok (.if_icmp .ne 6, 3) := by decide +kernel
theorem dX12_slot_54 : decode cX12_slot 54 = .ok (.bipush 8, 2) := by decide +kernel
theorem dX12_slot_56 : decode cX12_slot 56 = .ok (.ireturn, 1) := by decide +kernel
theorem dX12_slot_57 : decode cX12_slot 57 = .ok (.iload_n 0, 1) := by decide +kernel
theorem dX12_slot_58 : decode cX12_slot 58 = .ok (.sipush 768, 3) := by decide +kernel
theorem dX12_slot_61 : decode cX12_slot 61 = .ok (.if_icmp .ne 6, 3) := by decide +kernel
theorem dX12_slot_64 : decode cX12_slot 64 = .ok (.bipush 9, 2) := by decide +kernel
theorem dX12_slot_66 : decode cX12_slot 66 = .ok (.ireturn, 1) := by decide +kernel
theorem dX12_slot_67 : decode cX12_slot 67 = .ok (.iload_n 0, 1) := by decide +kernel
theorem dX12_slot_68 : decode cX12_slot 68 = .ok (.sipush 1536, 3) := by decide +kernel
theorem dX12_slot_71 : decode cX12_slot 71 = .ok (.if_icmp .ne 5, 3) := by decide +kernel
theorem dX12_slot_74 : decode cX12_slot 74 = .ok (.iconst 5, 1) := by decide +kernel
theorem dX12_slot_75 : decode cX12_slot 75 = .ok (.ireturn, 1) := by decide +kernel
theorem dX12_slot_76 : decode cX12_slot 76 = .ok (.iload_n 0, 1) := by decide +kernel
theorem dX12_slot_77 : decode cX12_slot 77 = .ok (.sipush 7810, 3) := by decide +kernel
theorem dX12_slot_80 : decode cX12_slot 80 = .ok (.if_icmp .ne 6, 3) := by decide +kernel
theorem dX12_slot_83 : decode cX12_slot 83 = .ok (.bipush 10, 2) := by decide +kernel
theorem dX12_slot_85 : decode cX12_slot 85 = .ok (.ireturn, 1) := by decide +kernel
theorem dX12_slot_86 : decode cX12_slot 86 = .ok (.iconst (-1), 1) := by decide +kernel
theorem dX12_slot_87 : decode cX12_slot 87 = .ok (.ireturn, 1) := by decide +kernel
def F_X12_slot (a0 : Int32) : Int32 := (if a0 = (128 : Int32) then (3 : Int32) else (if a0 = (256 : Int32) then (4 : Int32) else (if a0 = (520 : Int32) then (0 : Int32) else (if a0 = (512 : Int32) then (7 : Int32) else (if a0 = (513 : Int32) then (6 : Int32) else (if a0 = (656 : Int32) then (8 : Int32) else (if a0 = (768 : Int32) then (9 : Int32) else (if a0 = (1536 : Int32) then (5 : Int32) else (if a0 = (7810 : Int32) then (10 : Int32) else (-1 : Int32))))))))))
set_option maxHeartbeats 4000000 in
set_option maxRecDepth 100000 in
theorem c_X12_slot (l : Launch) (a0 : Int32) (res : Int32) (hf : F_X12_slot a0 = res) : Met l yX12_slot (wsC yX12_slot cX12_slot 1 (some .int)) { frames := 0, cells := 0, slots := 0, locals := 0 } (fun v _ => v = ([.int a0] : List Value).toArray) (gS (some (.int res))) 0 0 (fun _ => False) := by
  refine mk_s_i (own := RX12) (by decide) rfl _ (Nat.le_of_ble_eq_true rfl) (fun p e s m below meth c H locs Q ls S hl hend => ?_)
  have hx := S.1
  have hb := S.2.1
  have hown := S.2.2.2.1
  have hts := S.2.2.2.2
  have hl : lv_has ls 1 [(0, .int a0)] := hl
  unfold F_X12_slot at hf
  refine lv_iload_n hx hb dX12_slot_0 rfl (lv_at hl 0 rfl) ?_
  refine lv_sipush (v := 128) hx hb dX12_slot_1 (by decide) ?_
  refine lv_icmp_ne (tgt := 9) hx hb dX12_slot_4 (by decide) (fun c_4 => ?_) (fun c_4 => ?_)
  · rw [if_neg c_4] at hf
    refine lv_iload_n hx hb dX12_slot_9 rfl (lv_at hl 0 rfl) ?_
    refine lv_sipush (v := 256) hx hb dX12_slot_10 (by decide) ?_
    refine lv_icmp_ne (tgt := 18) hx hb dX12_slot_13 (by decide) (fun c_13 => ?_) (fun c_13 => ?_)
    · rw [if_neg c_13] at hf
      refine lv_iload_n hx hb dX12_slot_18 rfl (lv_at hl 0 rfl) ?_
      refine lv_sipush (v := 520) hx hb dX12_slot_19 (by decide) ?_
      refine lv_icmp_ne (tgt := 27) hx hb dX12_slot_22 (by decide) (fun c_22 => ?_) (fun c_22 => ?_)
      · rw [if_neg c_22] at hf
        refine lv_iload_n hx hb dX12_slot_27 rfl (lv_at hl 0 rfl) ?_
        refine lv_sipush (v := 512) hx hb dX12_slot_28 (by decide) ?_
        refine lv_icmp_ne (tgt := 37) hx hb dX12_slot_31 (by decide) (fun c_31 => ?_) (fun c_31 => ?_)
        · rw [if_neg c_31] at hf
          refine lv_iload_n hx hb dX12_slot_37 rfl (lv_at hl 0 rfl) ?_
          refine lv_sipush (v := 513) hx hb dX12_slot_38 (by decide) ?_
          refine lv_icmp_ne (tgt := 47) hx hb dX12_slot_41 (by decide) (fun c_41 => ?_) (fun c_41 => ?_)
          · rw [if_neg c_41] at hf
            refine lv_iload_n hx hb dX12_slot_47 rfl (lv_at hl 0 rfl) ?_
            refine lv_sipush (v := 656) hx hb dX12_slot_48 (by decide) ?_
            refine lv_icmp_ne (tgt := 57) hx hb dX12_slot_51 (by decide) (fun c_51 => ?_) (fun c_51 => ?_)
            · rw [if_neg c_51] at hf
              refine lv_iload_n hx hb dX12_slot_57 rfl (lv_at hl 0 rfl) ?_
              refine lv_sipush (v := 768) hx hb dX12_slot_58 (by decide) ?_
              refine lv_icmp_ne (tgt := 67) hx hb dX12_slot_61 (by decide) (fun c_61 => ?_) (fun c_61 => ?_)
              · rw [if_neg c_61] at hf
                refine lv_iload_n hx hb dX12_slot_67 rfl (lv_at hl 0 rfl) ?_
                refine lv_sipush (v := 1536) hx hb dX12_slot_68 (by decide) ?_
                refine lv_icmp_ne (tgt := 76) hx hb dX12_slot_71 (by decide) (fun c_71 => ?_) (fun c_71 => ?_)
                · rw [if_neg c_71] at hf
                  refine lv_iload_n hx hb dX12_slot_76 rfl (lv_at hl 0 rfl) ?_
                  refine lv_sipush (v := 7810) hx hb dX12_slot_77 (by decide) ?_
                  refine lv_icmp_ne (tgt := 86) hx hb dX12_slot_80 (by decide) (fun c_80 => ?_) (fun c_80 => ?_)
                  · rw [if_neg c_80] at hf
                    refine lv_iconst (v := -1) hx hb dX12_slot_86 (by decide) ?_
                    exact hend (-1 : Int32) 87 ls hf dX12_slot_87
                  · rw [if_pos c_80] at hf
                    refine lv_bipush (v := 10) hx hb dX12_slot_83 (by decide) ?_
                    exact hend (10 : Int32) 85 ls hf dX12_slot_85
                · rw [if_pos c_71] at hf
                  refine lv_iconst (v := 5) hx hb dX12_slot_74 (by decide) ?_
                  exact hend (5 : Int32) 75 ls hf dX12_slot_75
              · rw [if_pos c_61] at hf
                refine lv_bipush (v := 9) hx hb dX12_slot_64 (by decide) ?_
                exact hend (9 : Int32) 66 ls hf dX12_slot_66
            · rw [if_pos c_51] at hf
              refine lv_bipush (v := 8) hx hb dX12_slot_54 (by decide) ?_
              exact hend (8 : Int32) 56 ls hf dX12_slot_56
          · rw [if_pos c_41] at hf
            refine lv_bipush (v := 6) hx hb dX12_slot_44 (by decide) ?_
            exact hend (6 : Int32) 46 ls hf dX12_slot_46
        · rw [if_pos c_31] at hf
          refine lv_bipush (v := 7) hx hb dX12_slot_34 (by decide) ?_
          exact hend (7 : Int32) 36 ls hf dX12_slot_36
      · rw [if_pos c_22] at hf
        refine lv_iconst (v := 0) hx hb dX12_slot_25 (by decide) ?_
        exact hend (0 : Int32) 26 ls hf dX12_slot_26
    · rw [if_pos c_13] at hf
      refine lv_iconst (v := 4) hx hb dX12_slot_16 (by decide) ?_
      exact hend (4 : Int32) 17 ls hf dX12_slot_17
  · rw [if_pos c_4] at hf
    refine lv_iconst (v := 3) hx hb dX12_slot_7 (by decide) ?_
    exact hend (3 : Int32) 8 ls hf dX12_slot_8
theorem k_X12_slot {p : Program} {l : Launch} {e : Env} {R : Room} {s : State} {m : MethodId} {args : Array Value} {below : List Frame} {meth : Method} {c : Code} {H : Heap} {locs : List Loc} {Q : State → Prop} {cc : ByteArray} {pc : Nat} {ls : Array Slot} {rest : List Value} {own : String} {index nL : Nat} {a0 : Int32} (S : CallFix p m c cc nL s args tbG own) (hl : Cond.methodLink own index yX12_slot ∈ tbG) (hR : 0 + 1 ≤ R.frames ∧ 8 + (1 + 11) + 0 ≤ R.locals) (hsz : ls.size = nL) (hcat : (rest.map fun v => v.category).sum ≤ 8) (hdg : decode cc pc = .ok (.invokestatic index, 3)) (kk : W p l e R s m args below meth c H locs 0 0 Q (F0 m (pc + 3) ls (.int (F_X12_slot a0) :: rest))) : W p l e R s m args below meth c H locs 0 0 Q (F0 m pc ls (.int a0 :: rest)) :=
  ks (As := [.int a0]) (ov := some (.int (F_X12_slot a0))) S (c_X12_slot l a0 _ rfl) ⟨tb_cB 1 S.2.2.2.2 tc_X12_slot ti_X12 hl rfl rfl (by decide +kernel) hR, S.2.2.2.2 _ ts_X12_slot⟩ rfl hsz rfl hcat hdg kk

theorem dX12_system_0 : decode cX12_system 0 = .ok (.aload_n 0, 1) := by decide +kernel
theorem dX12_system_1 : decode cX12_system 1 = .ok (.bipush 18, 2) := by decide +kernel
theorem dX12_system_3 : decode cX12_system 3 = .ok (.iconst 5, 1) := by decide +kernel
theorem dX12_system_4 : decode cX12_system 4 = .ok (.invokevirtual 121, 3) := by decide +kernel
theorem dX12_system_7 : decode cX12_system 7 = .ok (.istore_n 1, 1) := by decide +kernel
theorem dX12_system_8 : decode cX12_system 8 = .ok (.aload_n 0, 1) := by decide +kernel
theorem dX12_system_9 : decode cX12_system 9 = .ok (.bipush 21, 2) := by decide +kernel
theorem dX12_system_11 : decode cX12_system 11 = .ok (.invokevirtual 118, 3) := by decide +kernel
theorem dX12_system_14 : decode cX12_system 14 = .ok (.istore_n 2, 1) := by decide +kernel
theorem dX12_system_15 : decode cX12_system 15 = .ok (.aload_n 0, 1) := by decide +kernel
theorem dX12_system_16 : decode cX12_system 16 = .ok (.iconst 4, 1) := by decide +kernel
theorem dX12_system_17 : decode cX12_system 17 = .ok (.iconst 0, 1) := by decide +kernel
theorem dX12_system_18 : decode cX12_system 18 = .ok (.invokevirtual 121, 3) := by decide +kernel
theorem dX12_system_21 : decode cX12_system 21 = .ok (.istore_n 3, 1) := by decide +kernel
theorem dX12_system_22 : decode cX12_system 22 = .ok (.iload_n 1, 1) := by decide +kernel
theorem dX12_system_23 : decode cX12_system 23 = .ok (.invokestatic 224, 3) := by decide +kernel
theorem dX12_system_26 : decode cX12_system 26 = .ok (.istore 4, 2) := by decide +kernel
theorem dX12_system_28 : decode cX12_system 28 = .ok (.iload 4, 2) := by decide +kernel
theorem dX12_system_30 : decode cX12_system 30 = .ok (.ifCond .ge 40, 3) := by decide +kernel
theorem dX12_system_33 : decode cX12_system 33 = .ok (.iload_n 1, 1) := by decide +kernel
theorem dX12_system_34 : decode cX12_system 34 = .ok (.sipush 528, 3) := by decide +kernel
theorem dX12_system_37 : decode cX12_system 37 = .ok (.if_icmp .eq 33, 3) := by decide +kernel
theorem dX12_system_40 : decode cX12_system 40 = .ok (.iload_n 1, 1) := by decide +kernel
theorem dX12_system_41 : decode cX12_system 41 = .ok (.sipush 6672, 3) := by decide +kernel
theorem dX12_system_44 : decode cX12_system 44 = .ok (.if_icmp .eq 26, 3) := by decide +kernel
theorem dX12_system_47 : decode cX12_system 47 = .ok (.iload_n 1, 1) := by decide +kernel
theorem dX12_system_48 : decode cX12_system 48 = .ok (.sipush 6673, 3) := by decide +kernel
theorem dX12_system_51 : decode cX12_system 51 = .ok (.if_icmp .eq 19, 3) := by decide +kernel
theorem dX12_system_54 : decode cX12_system 54 = .ok (.iload_n 1, 1) := by decide +kernel
theorem dX12_system_55 : decode cX12_system 55 = .ok (.sipush 530, 3) := by decide +kernel
theorem dX12_system_58 : decode cX12_system 58 = .ok (.if_icmp .ne 7, 3) := by decide +kernel
theorem dX12_system_61 : decode cX12_system 61 = .ok (.iload_n 2, 1) := by decide +kernel
theorem dX12_system_62 : decode cX12_system 62 = .ok (.ifCond .ne 8, 3) := by decide +kernel
theorem dX12_system_65 : decode cX12_system 65 = .ok (.aload_n 0, 1) := by decide +kernel
theorem dX12_system_66 : decode cX12_system 66 = .ok (.invokevirtual 158, 3) := by decide +kernel
theorem dX12_system_69 : decode cX12_system 69 = .ok (.return_, 1) := by decide +kernel
theorem dX12_system_70 : decode cX12_system 70 = .ok (.aload_n 0, 1) := by decide +kernel
theorem dX12_system_71 : decode cX12_system 71 = .ok (.getfield 28, 3) := by decide +kernel
theorem dX12_system_74 : decode cX12_system 74 = .ok (.ifCond .ne 95, 3) := by decide +kernel
theorem dX12_system_77 : decode cX12_system 77 = .ok (.iload_n 1, 1) := by decide +kernel
theorem dX12_system_78 : decode cX12_system 78 = .ok (.sipush 6672, 3) := by decide +kernel
theorem dX12_system_81 : decode cX12_system 81 = .ok (.if_icmp .eq 88, 3) := by decide +kernel
theorem dX12_system_84 : decode cX12_system 84 = .ok (.iload_n 1, 1) := by decide +kernel
theorem dX12_system_85 : decode cX12_system 85 = .ok (.sipush 7810, 3) := by decide +kernel
theorem dX12_system_88 : decode cX12_system 88 = .ok (.if_icmp .eq 81, 3) := by decide +kernel
theorem dX12_system_91 : decode cX12_system 91 = .ok (.ldc2_w 228, 3) := by decide +kernel
theorem dX12_system_94 : decode cX12_system 94 = .ok (.iload_n 1, 1) := by decide +kernel
theorem dX12_system_95 : decode cX12_system 95 = .ok (.bipush 8, 2) := by decide +kernel
theorem dX12_system_97 : decode cX12_system 97 = .ok (.irem, 1) := by decide +kernel
theorem dX12_system_98 : decode cX12_system 98 = .ok (.i2l, 1) := by decide +kernel
theorem dX12_system_99 : decode cX12_system 99 = .ok (.bipush 17, 2) := by decide +kernel
theorem dX12_system_101 : decode cX12_system 101 = .ok (.lshl, 1) := by decide +kernel
theorem dX12_system_102 : decode cX12_system 102 = .ok (.lor, 1) := by decide +kernel
theorem dX12_system_103 : decode cX12_system 103 = .ok (.iload_n 1, 1) := by decide +kernel
theorem dX12_system_104 : decode cX12_system 104 = .ok (.sipush 2048, 3) := by decide +kernel
theorem dX12_system_107 : decode cX12_system 107 = .ok (.idiv, 1) := by decide +kernel
theorem dX12_system_108 : decode cX12_system 108 = .ok (.i2l, 1) := by decide +kernel
theorem dX12_system_109 : decode cX12_system 109 = .ok (.bipush 14, 2) := by decide +kernel
theorem dX12_system_111 : decode cX12_system 111 = .ok (.lshl, 1) := by decide +kernel
theorem dX12_system_112 : decode cX12_system 112 = .ok (.lor, 1) := by decide +kernel
theorem dX12_system_113 : decode cX12_system 113 = .ok (.iload_n 1, 1) := by decide +kernel
theorem dX12_system_114 : decode cX12_system 114 = .ok (.sipush 128, 3) := by decide +kernel
theorem dX12_system_117 : decode cX12_system 117 = .ok (.idiv, 1) := by decide +kernel
theorem dX12_system_118 : decode cX12_system 118 = .ok (.bipush 16, 2) := by decide +kernel
theorem dX12_system_120 : decode cX12_system 120 = .ok (.irem, 1) := by decide +kernel
theorem dX12_system_121 : decode cX12_system 121 = .ok (.i2l, 1) := by decide +kernel
theorem dX12_system_122 : decode cX12_system 122 = .ok (.bipush 10, 2) := by decide +kernel
theorem dX12_system_124 : decode cX12_system 124 = .ok (.lshl, 1) := by decide +kernel
theorem dX12_system_125 : decode cX12_system 125 = .ok (.lor, 1) := by decide +kernel
theorem dX12_system_126 : decode cX12_system 126 = .ok (.iload_n 3, 1) := by decide +kernel
theorem dX12_system_127 : decode cX12_system 127 = .ok (.i2l, 1) := by decide +kernel
theorem dX12_system_128 : decode cX12_system 128 = .ok (.iconst 5, 1) := by decide +kernel
theorem dX12_system_129 : decode cX12_system 129 = .ok (.lshl, 1) := by decide +kernel
theorem dX12_system_130 : decode cX12_system 130 = .ok (.lor, 1) := by decide +kernel
theorem dX12_system_131 : decode cX12_system 131 = .ok (.iload_n 1, 1) := by decide +kernel
theorem dX12_system_132 : decode cX12_system 132 = .ok (.bipush 8, 2) := by decide +kernel
theorem dX12_system_134 : decode cX12_system 134 = .ok (.idiv, 1) := by decide +kernel
theorem dX12_system_135 : decode cX12_system 135 = .ok (.bipush 16, 2) := by decide +kernel
theorem dX12_system_137 : decode cX12_system 137 = .ok (.irem, 1) := by decide +kernel
theorem dX12_system_138 : decode cX12_system 138 = .ok (.i2l, 1) := by decide +kernel
theorem dX12_system_139 : decode cX12_system 139 = .ok (.iconst 1, 1) := by decide +kernel
theorem dX12_system_140 : decode cX12_system 140 = .ok (.lshl, 1) := by decide +kernel
theorem dX12_system_141 : decode cX12_system 141 = .ok (.lor, 1) := by decide +kernel
theorem dX12_system_142 : decode cX12_system 142 = .ok (.lstore 5, 2) := by decide +kernel
theorem dX12_system_144 : decode cX12_system 144 = .ok (.iload_n 2, 1) := by decide +kernel
theorem dX12_system_145 : decode cX12_system 145 = .ok (.ifCond .eq 9, 3) := by decide +kernel
theorem dX12_system_148 : decode cX12_system 148 = .ok (.lload 5, 2) := by decide +kernel
theorem dX12_system_150 : decode cX12_system 150 = .ok (.lconst 1, 1) := by decide +kernel
theorem dX12_system_151 : decode cX12_system 151 = .ok (.lor, 1) := by decide +kernel
theorem dX12_system_152 : decode cX12_system 152 = .ok (.lstore 5, 2) := by decide +kernel
theorem dX12_system_154 : decode cX12_system 154 = .ok (.aload_n 0, 1) := by decide +kernel
theorem dX12_system_155 : decode cX12_system 155 = .ok (.bipush 24, 2) := by decide +kernel
theorem dX12_system_157 : decode cX12_system 157 = .ok (.lload 5, 2) := by decide +kernel
theorem dX12_system_159 : decode cX12_system 159 = .ok (.aload_n 0, 1) := by decide +kernel
theorem dX12_system_160 : decode cX12_system 160 = .ok (.getfield 22, 3) := by decide +kernel
theorem dX12_system_163 : decode cX12_system 163 = .ok (.iconst 2, 1) := by decide +kernel
theorem dX12_system_164 : decode cX12_system 164 = .ok (.laload, 1) := by decide +kernel
theorem dX12_system_165 : decode cX12_system 165 = .ok (.invokevirtual 106, 3) := by decide +kernel
theorem dX12_system_168 : decode cX12_system 168 = .ok (.return_, 1) := by decide +kernel
theorem dX12_system_169 : decode cX12_system 169 = .ok (.iload_n 2, 1) := by decide +kernel
theorem dX12_system_170 : decode cX12_system 170 = .ok (.ifCond .eq 94, 3) := by decide +kernel
theorem dX12_system_173 : decode cX12_system 173 = .ok (.lconst 0, 1) := by decide +kernel
theorem dX12_system_174 : decode cX12_system 174 = .ok (.lstore 5, 2) := by decide +kernel
theorem dX12_system_176 : decode cX12_system 176 = .ok (.iload 4, 2) := by decide +kernel
theorem dX12_system_178 : decode cX12_system 178 = .ok (.ifCond .lt 12, 3) := by decide +kernel
theorem dX12_system_181 : decode cX12_system 181 = .ok (.aload_n 0, 1) := by decide +kernel
theorem dX12_system_182 : decode cX12_system 182 = .ok (.getfield 22, 3) := by decide +kernel
theorem dX12_system_185 : decode cX12_system 185 = .ok (.iload 4, 2) := by decide +kernel
theorem dX12_system_187 : decode cX12_system 187 = .ok (.laload, 1) := by decide +kernel
theorem dX12_system_188 : decode cX12_system 188 = .ok (.lstore 5, 2) := by decide +kernel
theorem dX12_system_190 : decode cX12_system 190 = .ok (.iload_n 1, 1) := by decide +kernel
theorem dX12_system_191 : decode cX12_system 191 = .ok (.sipush 528, 3) := by decide +kernel
theorem dX12_system_194 : decode cX12_system 194 = .ok (.if_icmp .ne 10, 3) := by decide +kernel
theorem dX12_system_197 : decode cX12_system 197 = .ok (.aload_n 0, 1) := by decide +kernel
theorem dX12_system_198 : decode cX12_system 198 = .ok (.getfield 31, 3) := by decide +kernel
theorem dX12_system_201 : decode cX12_system 201 = .ok (.i2l, 1) := by decide +kernel
theorem dX12_system_202 : decode cX12_system 202 = .ok (.lstore 5, 2) := by decide +kernel
theorem dX12_system_204 : decode cX12_system 204 = .ok (.iload_n 1, 1) := by decide +kernel
theorem dX12_system_205 : decode cX12_system 205 = .ok (.sipush 530, 3) := by decide +kernel
theorem dX12_system_208 : decode cX12_system 208 = .ok (.if_icmp .ne 14, 3) := by decide +kernel
theorem dX12_system_211 : decode cX12_system 211 = .ok (.ldc2_w 90, 3) := by decide +kernel
theorem dX12_system_214 : decode cX12_system 214 = .ok (.aload_n 0, 1) := by decide +kernel
theorem dX12_system_215 : decode cX12_system 215 = .ok (.getfield 28, 3) := by decide +kernel
theorem dX12_system_218 : decode cX12_system 218 = .ok (.i2l, 1) := by decide +kernel
theorem dX12_system_219 : decode cX12_system 219 = .ok (.lmul, 1) := by decide +kernel
theorem dX12_system_220 : decode cX12_system 220 = .ok (.lstore 5, 2) := by decide +kernel
theorem dX12_system_222 : decode cX12_system 222 = .ok (.iload_n 1, 1) := by decide +kernel
theorem dX12_system_223 : decode cX12_system 223 = .ok (.sipush 6672, 3) := by decide +kernel
theorem dX12_system_226 : decode cX12_system 226 = .ok (.if_icmp .ne 13, 3) := by decide +kernel
theorem dX12_system_229 : decode cX12_system 229 = .ok (.aload_n 0, 1) := by decide +kernel
theorem dX12_system_230 : decode cX12_system 230 = .ok (.getfield 25, 3) := by decide +kernel
theorem dX12_system_233 : decode cX12_system 233 = .ok (.i2l, 1) := by decide +kernel
theorem dX12_system_234 : decode cX12_system 234 = .ok (.bipush 28, 2) := by decide +kernel
theorem dX12_system_236 : decode cX12_system 236 = .ok (.lshl, 1) := by decide +kernel
theorem dX12_system_237 : decode cX12_system 237 = .ok (.lstore 5, 2) := by decide +kernel
theorem dX12_system_239 : decode cX12_system 239 = .ok (.iload_n 1, 1) := by decide +kernel
theorem dX12_system_240 : decode cX12_system 240 = .ok (.sipush 6673, 3) := by decide +kernel
theorem dX12_system_243 : decode cX12_system 243 = .ok (.if_icmp .ne 13, 3) := by decide +kernel
theorem dX12_system_246 : decode cX12_system 246 = .ok (.aload_n 0, 1) := by decide +kernel
theorem dX12_system_247 : decode cX12_system 247 = .ok (.getfield 34, 3) := by decide +kernel
theorem dX12_system_250 : decode cX12_system 250 = .ok (.i2l, 1) := by decide +kernel
theorem dX12_system_251 : decode cX12_system 251 = .ok (.bipush 7, 2) := by decide +kernel
theorem dX12_system_253 : decode cX12_system 253 = .ok (.lshl, 1) := by decide +kernel
theorem dX12_system_254 : decode cX12_system 254 = .ok (.lstore 5, 2) := by decide +kernel
theorem dX12_system_256 : decode cX12_system 256 = .ok (.aload_n 0, 1) := by decide +kernel
theorem dX12_system_257 : decode cX12_system 257 = .ok (.iload_n 3, 1) := by decide +kernel
theorem dX12_system_258 : decode cX12_system 258 = .ok (.lload 5, 2) := by decide +kernel
theorem dX12_system_260 : decode cX12_system 260 = .ok (.invokevirtual 151, 3) := by decide +kernel
theorem dX12_system_263 : decode cX12_system 263 = .ok (.return_, 1) := by decide +kernel
theorem dX12_system_264 : decode cX12_system 264 = .ok (.aload_n 0, 1) := by decide +kernel
theorem dX12_system_265 : decode cX12_system 265 = .ok (.iload_n 3, 1) := by decide +kernel
theorem dX12_system_266 : decode cX12_system 266 = .ok (.invokevirtual 161, 3) := by decide +kernel
theorem dX12_system_269 : decode cX12_system 269 = .ok (.lstore 5, 2) := by decide +kernel
theorem dX12_system_271 : decode cX12_system 271 = .ok (.iload 4, 2) := by decide +kernel
theorem dX12_system_273 : decode cX12_system 273 = .ok (.ifCond .lt 12, 3) := by decide +kernel
theorem dX12_system_276 : decode cX12_system 276 = .ok (.aload_n 0, 1) := by decide +kernel
theorem dX12_system_277 : decode cX12_system 277 = .ok (.getfield 22, 3) := by decide +kernel
theorem dX12_system_280 : decode cX12_system 280 = .ok (.iload 4, 2) := by decide +kernel
theorem dX12_system_282 : decode cX12_system 282 = .ok (.lload 5, 2) := by decide +kernel
theorem dX12_system_284 : decode cX12_system 284 = .ok (.lastore, 1) := by decide +kernel
theorem dX12_system_285 : decode cX12_system 285 = .ok (.iload_n 1, 1) := by decide +kernel
theorem dX12_system_286 : decode cX12_system 286 = .ok (.sipush 528, 3) := by decide +kernel
theorem dX12_system_289 : decode cX12_system 289 = .ok (.if_icmp .ne 12, 3) := by decide +kernel
theorem dX12_system_292 : decode cX12_system 292 = .ok (.aload_n 0, 1) := by decide +kernel
theorem dX12_system_293 : decode cX12_system 293 = .ok (.lload 5, 2) := by decide +kernel
theorem dX12_system_295 : decode cX12_system 295 = .ok (.lconst 1, 1) := by decide +kernel
theorem dX12_system_296 : decode cX12_system 296 = .ok (.land, 1) := by decide +kernel
theorem dX12_system_297 : decode cX12_system 297 = .ok (.l2i, 1) := by decide +kernel
theorem dX12_system_298 : decode cX12_system 298 = .ok (.putfield 31, 3) := by decide +kernel
theorem dX12_system_301 : decode cX12_system 301 = .ok (.iload_n 1, 1) := by decide +kernel
theorem dX12_system_302 : decode cX12_system 302 = .ok (.sipush 6672, 3) := by decide +kernel
theorem dX12_system_305 : decode cX12_system 305 = .ok (.if_icmp .ne 17, 3) := by decide +kernel
theorem dX12_system_308 : decode cX12_system 308 = .ok (.aload_n 0, 1) := by decide +kernel
theorem dX12_system_309 : decode cX12_system 309 = .ok (.lload 5, 2) := by decide +kernel
theorem dX12_system_311 : decode cX12_system 311 = .ok (.bipush 31, 2) := by decide +kernel
theorem dX12_system_313 : decode cX12_system 313 = .ok (.bipush 28, 2) := by decide +kernel
theorem dX12_system_315 : decode cX12_system 315 = .ok (.invokestatic 72, 3) := by decide +kernel
theorem dX12_system_318 : decode cX12_system 318 = .ok (.l2i, 1) := by decide +kernel
theorem dX12_system_319 : decode cX12_system 319 = .ok (.putfield 25, 3) := by decide +kernel
theorem dX12_system_322 : decode cX12_system 322 = .ok (.iload_n 1, 1) := by decide +kernel
theorem dX12_system_323 : decode cX12_system 323 = .ok (.sipush 6673, 3) := by decide +kernel
theorem dX12_system_326 : decode cX12_system 326 = .ok (.if_icmp .ne 17, 3) := by decide +kernel
theorem dX12_system_329 : decode cX12_system 329 = .ok (.aload_n 0, 1) := by decide +kernel
theorem dX12_system_330 : decode cX12_system 330 = .ok (.lload 5, 2) := by decide +kernel
theorem dX12_system_332 : decode cX12_system 332 = .ok (.bipush 7, 2) := by decide +kernel
theorem dX12_system_334 : decode cX12_system 334 = .ok (.bipush 7, 2) := by decide +kernel
theorem dX12_system_336 : decode cX12_system 336 = .ok (.invokestatic 72, 3) := by decide +kernel
theorem dX12_system_339 : decode cX12_system 339 = .ok (.l2i, 1) := by decide +kernel
theorem dX12_system_340 : decode cX12_system 340 = .ok (.putfield 34, 3) := by decide +kernel
theorem dX12_system_343 : decode cX12_system 343 = .ok (.return_, 1) := by decide +kernel
def F_X12_system_c322 (τ : MS) (w1 : Int32) (w5 : Int64) : Option (MS) := (if w1 = (6673 : Int32) then ((F_X12_bits w5 (7 : Int32) (7 : Int32)).bind fun v4 => some ((mu_masked τ v4.toInt32))) else some (τ))
def F_X12_system_c301 (τ : MS) (w1 : Int32) (w5 : Int64) : Option (MS) := (if w1 = (6672 : Int32) then ((F_X12_bits w5 (31 : Int32) (28 : Int32)).bind fun v5 => (F_X12_system_c322 (mu_flags τ v5.toInt32) w1 w5)) else (F_X12_system_c322 τ w1 w5))
def F_X12_system_c285 (τ : MS) (w1 : Int32) (w5 : Int64) : Option (MS) := (if w1 = (528 : Int32) then (F_X12_system_c301 (mu_select τ (w5 &&& (1 : Int64)).toInt32) w1 w5) else (F_X12_system_c301 τ w1 w5))
def F_X12_system_c256 (τ : MS) (w3 : Int32) (w5 : Int64) : Option (MS) := ((F_X12_put τ w3 w5).bind fun v6 => some (v6))
def F_X12_system_c239 (τ : MS) (w1 : Int32) (w3 : Int32) (w5 : Int64) : Option (MS) := (if w1 = (6673 : Int32) then (F_X12_system_c256 τ w3 (j_lshl (m_masked τ).toInt64 (7 : Int32))) else (F_X12_system_c256 τ w3 w5))
def F_X12_system_c222 (τ : MS) (w1 : Int32) (w3 : Int32) (w5 : Int64) : Option (MS) := (if w1 = (6672 : Int32) then (F_X12_system_c239 τ w1 w3 (j_lshl (m_flags τ).toInt64 (28 : Int32))) else (F_X12_system_c239 τ w1 w3 w5))
def F_X12_system_c204 (τ : MS) (w1 : Int32) (w3 : Int32) (w5 : Int64) : Option (MS) := (if w1 = (530 : Int32) then (F_X12_system_c222 τ w1 w3 ((4 : Int64) * (m_level τ).toInt64)) else (F_X12_system_c222 τ w1 w3 w5))
def F_X12_system_c190 (τ : MS) (w1 : Int32) (w3 : Int32) (w5 : Int64) : Option (MS) := (if w1 = (528 : Int32) then (F_X12_system_c204 τ w1 w3 (m_select τ).toInt64) else (F_X12_system_c204 τ w1 w3 w5))
def F_X12_system_c169 (τ : MS) (w1 : Int32) (w2 : Bool) (w3 : Int32) (w4 : Int32) : Option (MS) := (if w2 = true then (if w4 < 0 then (F_X12_system_c190 τ w1 w3 (0 : Int64)) else (if (w4 < 0 ∨ 11 ≤ w4.toNatClampNeg) then none else (F_X12_system_c190 τ w1 w3 (m_state τ w4.toNatClampNeg)))) else ((F_X12_reg τ w3).bind fun v3 => (if w4 < 0 then (F_X12_system_c285 τ w1 v3) else (if (w4 < 0 ∨ 11 ≤ w4.toNatClampNeg) then none else (F_X12_system_c285 (mu_state τ (vp_updL (m_state τ) w4.toNatClampNeg v3)) w1 v3)))))
def F_X12_system_c154 (τ : MS) (w5 : Int64) : Option (MS) := some ((F_X12_exception τ (24 : Int32) w5 (m_state τ (2 : Int32).toNatClampNeg)))
def F_X12_system_c144 (τ : MS) (w2 : Bool) (w5 : Int64) : Option (MS) := (if w2 = true then (F_X12_system_c154 τ (w5 ||| (1 : Int64))) else (F_X12_system_c154 τ w5))
def F_X12_system_c70 (τ : MS) (w1 : Int32) (w2 : Bool) (w3 : Int32) (w4 : Int32) : Option (MS) := (if (m_level τ) = 0 then (if w1 = (6672 : Int32) then (F_X12_system_c169 τ w1 w2 w3 w4) else (if w1 = (7810 : Int32) then (F_X12_system_c169 τ w1 w2 w3 w4) else (F_X12_system_c144 τ w2 ((((((3145728 : Int64) ||| (j_lshl (w1 - w1 / (8 : Int32) * (8 : Int32)).toInt64 (17 : Int32))) ||| (j_lshl (w1 / (2048 : Int32)).toInt64 (14 : Int32))) ||| (j_lshl ((w1 / (128 : Int32)) - (w1 / (128 : Int32)) / (16 : Int32) * (16 : Int32)).toInt64 (10 : Int32))) ||| (j_lshl w3.toInt64 (5 : Int32))) ||| (j_lshl ((w1 / (8 : Int32)) - (w1 / (8 : Int32)) / (16 : Int32) * (16 : Int32)).toInt64 (1 : Int32)))))) else (F_X12_system_c169 τ w1 w2 w3 w4))
def F_X12_system_c65 (τ : MS) : Option (MS) := some ((F_X12_none τ))
def F_X12_system_c28 (τ : MS) (w1 : Int32) (w2 : Bool) (w3 : Int32) (w4 : Int32) : Option (MS) := (if 0 ≤ w4 then (F_X12_system_c70 τ w1 w2 w3 w4) else (if w1 = (528 : Int32) then (F_X12_system_c70 τ w1 w2 w3 w4) else (if w1 = (6672 : Int32) then (F_X12_system_c70 τ w1 w2 w3 w4) else (if w1 = (6673 : Int32) then (F_X12_system_c70 τ w1 w2 w3 w4) else (if w1 = (530 : Int32) then (if w2 = true then (F_X12_system_c70 τ w1 w2 w3 w4) else (F_X12_system_c65 τ)) else (F_X12_system_c65 τ))))))
def F_X12_system_c15 (τ : MS) (w1 : Int32) (w2 : Bool) : Option (MS) := ((F_X12_f τ (4 : Int32) (0 : Int32)).bind fun v2 => (F_X12_system_c28 τ w1 w2 v2 (F_X12_slot w1)))
def F_X12_system (σ : MS)  : Option (MS) := ((F_X12_f σ (18 : Int32) (5 : Int32)).bind fun v1 => (F_X12_system_c15 σ v1 (F_X12_on σ (21 : Int32))))
set_option maxHeartbeats 4000000 in
set_option maxRecDepth 100000 in
theorem c_X12_system (l : Launch) (z : Cx) (r : Nat → Nat) (σ : MS) (sz : Nat) (res : MS) (hf : F_X12_system σ = some res) : Met l yX12_system (wsC yX12_system cX12_system 7 none) { frames := 3, cells := 0, slots := 0, locals := 72 } (mPc z (mW z r σ) sz [.ref (r 0)]) (gM z (va_A (mW z r σ) sz) none (mW z r res)) 0 0 (va_A (mW z r σ) sz) := by
  refine mk_m_v (own := RX12) (wf := mW z r) (by decide) rfl sz _ (Nat.le_of_ble_eq_true rfl) (fun p e s m below meth c A H locs Q ls S hK hA hP hD hS hl hend => ?_)
  have hx := S.1
  have hb := S.2.1
  have hown := S.2.2.2.1
  have hts := S.2.2.2.2
  have hl : lv_has ls 7 [(0, .ref (r 0))] := hl
  have J_c322 : ∀ (τ : MS) (w1 : Int32) (w5 : Int64) (H : Heap) (locs : List Loc) (ls : Array Slot), F_X12_system_c322 τ w1 w5 = some res → va_P z.1 vwCl (mW z r τ) H → va_D A (mW z r τ) → va_S A s.heap H locs → lv_has ls 7 [(0, .ref (r 0)), (1, .int w1), (5, .long w5)] → W p l e { frames := 3, cells := 0, slots := 0, locals := 72 } s m ([.ref (r 0)] : List Value).toArray below meth c H locs 0 0 Q (F0 m 322 ls []) := by
    intro τ w1 w5 H locs ls hf hP hD hS hl
    unfold F_X12_system_c322 at hf
    refine lv_iload_n hx hb dX12_system_322 rfl (lv_at hl 1 rfl) ?_
    refine lv_sipush (v := 6673) hx hb dX12_system_323 (by decide) ?_
    refine lv_icmp_ne (tgt := 343) hx hb dX12_system_326 (by decide) (fun c_326 => ?_) (fun c_326 => ?_)
    · rw [if_neg c_326] at hf
      exact hend τ H locs 343 ls (Option.some.inj hf) hP hD hS dX12_system_343
    · rw [if_pos c_326] at hf
      refine lv_aload_n hx hb dX12_system_329 rfl (lv_at hl 0 rfl) ?_
      refine lv_lload hx hb dX12_system_330 (lv_at hl 2 rfl) ?_
      refine lv_bipush (v := 7) hx hb dX12_system_332 (by decide) ?_
      refine lv_bipush (v := 7) hx hb dX12_system_334 (by decide) ?_
      obtain ⟨v4, e_v4, hf⟩ := Option.bind_eq_some_iff.mp hf
      refine k_X12_bits (a0 := w5) (a1 := (7 : Int32)) (a2 := (7 : Int32)) (res := v4) (hres := e_v4) S tl_X12_72 ⟨Nat.le_of_ble_eq_true rfl, Nat.le_of_ble_eq_true rfl⟩ hl.1 (Nat.le_of_ble_eq_true rfl) dX12_system_336 ?_
      refine lv_l2i hx hb dX12_system_339 rfl ?_
      refine fp_X12_masked (v := v4.toInt32) S hK hP hD hS tf_X12_34 dX12_system_340 (fun H locs hP hD hS => ?_)
      exact hend (mu_masked τ v4.toInt32) H locs 343 ls (Option.some.inj hf) hP hD hS dX12_system_343
  have J_c301 : ∀ (τ : MS) (w1 : Int32) (w5 : Int64) (H : Heap) (locs : List Loc) (ls : Array Slot), F_X12_system_c301 τ w1 w5 = some res → va_P z.1 vwCl (mW z r τ) H → va_D A (mW z r τ) → va_S A s.heap H locs → lv_has ls 7 [(0, .ref (r 0)), (1, .int w1), (5, .long w5)] → W p l e { frames := 3, cells := 0, slots := 0, locals := 72 } s m ([.ref (r 0)] : List Value).toArray below meth c H locs 0 0 Q (F0 m 301 ls []) := by
    intro τ w1 w5 H locs ls hf hP hD hS hl
    unfold F_X12_system_c301 at hf
    refine lv_iload_n hx hb dX12_system_301 rfl (lv_at hl 1 rfl) ?_
    refine lv_sipush (v := 6672) hx hb dX12_system_302 (by decide) ?_
    refine lv_icmp_ne (tgt := 322) hx hb dX12_system_305 (by decide) (fun c_305 => ?_) (fun c_305 => ?_)
    · rw [if_neg c_305] at hf
      exact J_c322 τ w1 w5 H locs ls hf hP hD hS (lv_sub hl [0, 1, 2] rfl)
    · rw [if_pos c_305] at hf
      refine lv_aload_n hx hb dX12_system_308 rfl (lv_at hl 0 rfl) ?_
      refine lv_lload hx hb dX12_system_309 (lv_at hl 2 rfl) ?_
      refine lv_bipush (v := 31) hx hb dX12_system_311 (by decide) ?_
      refine lv_bipush (v := 28) hx hb dX12_system_313 (by decide) ?_
      obtain ⟨v5, e_v5, hf⟩ := Option.bind_eq_some_iff.mp hf
      refine k_X12_bits (a0 := w5) (a1 := (31 : Int32)) (a2 := (28 : Int32)) (res := v5) (hres := e_v5) S tl_X12_72 ⟨Nat.le_of_ble_eq_true rfl, Nat.le_of_ble_eq_true rfl⟩ hl.1 (Nat.le_of_ble_eq_true rfl) dX12_system_315 ?_
      refine lv_l2i hx hb dX12_system_318 rfl ?_
      refine fp_X12_flags (v := v5.toInt32) S hK hP hD hS tf_X12_25 dX12_system_319 (fun H locs hP hD hS => ?_)
      exact J_c322 (mu_flags τ v5.toInt32) w1 w5 H locs ls hf hP hD hS (lv_sub hl [0, 1, 2] rfl)
  have J_c285 : ∀ (τ : MS) (w1 : Int32) (w5 : Int64) (H : Heap) (locs : List Loc) (ls : Array Slot), F_X12_system_c285 τ w1 w5 = some res → va_P z.1 vwCl (mW z r τ) H → va_D A (mW z r τ) → va_S A s.heap H locs → lv_has ls 7 [(0, .ref (r 0)), (1, .int w1), (5, .long w5)] → W p l e { frames := 3, cells := 0, slots := 0, locals := 72 } s m ([.ref (r 0)] : List Value).toArray below meth c H locs 0 0 Q (F0 m 285 ls []) := by
    intro τ w1 w5 H locs ls hf hP hD hS hl
    unfold F_X12_system_c285 at hf
    refine lv_iload_n hx hb dX12_system_285 rfl (lv_at hl 1 rfl) ?_
    refine lv_sipush (v := 528) hx hb dX12_system_286 (by decide) ?_
    refine lv_icmp_ne (tgt := 301) hx hb dX12_system_289 (by decide) (fun c_289 => ?_) (fun c_289 => ?_)
    · rw [if_neg c_289] at hf
      exact J_c301 τ w1 w5 H locs ls hf hP hD hS (lv_sub hl [0, 1, 2] rfl)
    · rw [if_pos c_289] at hf
      refine lv_aload_n hx hb dX12_system_292 rfl (lv_at hl 0 rfl) ?_
      refine lv_lload hx hb dX12_system_293 (lv_at hl 2 rfl) ?_
      refine lv_lconst (v := 1) hx hb dX12_system_295 (by decide) ?_
      refine lv_land hx hb dX12_system_296 ?_
      refine lv_l2i hx hb dX12_system_297 rfl ?_
      refine fp_X12_select (v := (w5 &&& (1 : Int64)).toInt32) S hK hP hD hS tf_X12_31 dX12_system_298 (fun H locs hP hD hS => ?_)
      exact J_c301 (mu_select τ (w5 &&& (1 : Int64)).toInt32) w1 w5 H locs ls hf hP hD hS (lv_sub hl [0, 1, 2] rfl)
  have J_c256 : ∀ (τ : MS) (w3 : Int32) (w5 : Int64) (H : Heap) (locs : List Loc) (ls : Array Slot), F_X12_system_c256 τ w3 w5 = some res → va_P z.1 vwCl (mW z r τ) H → va_D A (mW z r τ) → va_S A s.heap H locs → lv_has ls 7 [(0, .ref (r 0)), (3, .int w3), (5, .long w5)] → W p l e { frames := 3, cells := 0, slots := 0, locals := 72 } s m ([.ref (r 0)] : List Value).toArray below meth c H locs 0 0 Q (F0 m 256 ls []) := by
    intro τ w3 w5 H locs ls hf hP hD hS hl
    unfold F_X12_system_c256 at hf
    refine lv_aload_n hx hb dX12_system_256 rfl (lv_at hl 0 rfl) ?_
    refine lv_iload_n hx hb dX12_system_257 rfl (lv_at hl 1 rfl) ?_
    refine lv_lload hx hb dX12_system_258 (lv_at hl 2 rfl) ?_
    obtain ⟨v6, e_v6, hf⟩ := Option.bind_eq_some_iff.mp hf
    refine k_X12_put (a0 := w3) (a1 := w5) (res := v6) (hres := e_v6) S hK hA hP hD hS tl_X12_151 ⟨Nat.le_of_ble_eq_true rfl, Nat.le_of_ble_eq_true rfl⟩ hl.1 (Nat.le_of_ble_eq_true rfl) dX12_system_260 (fun H locs hP hD hS => ?_)
    exact hend v6 H locs 263 ls (Option.some.inj hf) hP hD hS dX12_system_263
  have J_c239 : ∀ (τ : MS) (w1 : Int32) (w3 : Int32) (w5 : Int64) (H : Heap) (locs : List Loc) (ls : Array Slot), F_X12_system_c239 τ w1 w3 w5 = some res → va_P z.1 vwCl (mW z r τ) H → va_D A (mW z r τ) → va_S A s.heap H locs → lv_has ls 7 [(0, .ref (r 0)), (1, .int w1), (3, .int w3), (5, .long w5)] → W p l e { frames := 3, cells := 0, slots := 0, locals := 72 } s m ([.ref (r 0)] : List Value).toArray below meth c H locs 0 0 Q (F0 m 239 ls []) := by
    intro τ w1 w3 w5 H locs ls hf hP hD hS hl
    unfold F_X12_system_c239 at hf
    refine lv_iload_n hx hb dX12_system_239 rfl (lv_at hl 1 rfl) ?_
    refine lv_sipush (v := 6673) hx hb dX12_system_240 (by decide) ?_
    refine lv_icmp_ne (tgt := 256) hx hb dX12_system_243 (by decide) (fun c_243 => ?_) (fun c_243 => ?_)
    · rw [if_neg c_243] at hf
      exact J_c256 τ w3 w5 H locs ls hf hP hD hS (lv_sub hl [0, 2, 3] rfl)
    · rw [if_pos c_243] at hf
      refine lv_aload_n hx hb dX12_system_246 rfl (lv_at hl 0 rfl) ?_
      refine fg_X12_masked S hK hP tf_X12_34 dX12_system_247 ?_
      refine lv_i2l hx hb dX12_system_250 rfl ?_
      refine lv_bipush (v := 7) hx hb dX12_system_251 (by decide) ?_
      refine lv_lshl (v := (j_lshl (m_masked τ).toInt64 (7 : Int32))) hx hb dX12_system_253 rfl ?_
      refine lv_lstore (lv' := [(5, .long (j_lshl (m_masked τ).toInt64 (7 : Int32))), (0, .ref (r 0)), (1, .int w1), (3, .int w3)]) hx hb dX12_system_254 hl (by decide) rfl (fun ls hl => ?_)
      exact J_c256 τ w3 (j_lshl (m_masked τ).toInt64 (7 : Int32)) H locs ls hf hP hD hS (lv_sub hl [1, 3, 0] rfl)
  have J_c222 : ∀ (τ : MS) (w1 : Int32) (w3 : Int32) (w5 : Int64) (H : Heap) (locs : List Loc) (ls : Array Slot), F_X12_system_c222 τ w1 w3 w5 = some res → va_P z.1 vwCl (mW z r τ) H → va_D A (mW z r τ) → va_S A s.heap H locs → lv_has ls 7 [(0, .ref (r 0)), (1, .int w1), (3, .int w3), (5, .long w5)] → W p l e { frames := 3, cells := 0, slots := 0, locals := 72 } s m ([.ref (r 0)] : List Value).toArray below meth c H locs 0 0 Q (F0 m 222 ls []) := by
    intro τ w1 w3 w5 H locs ls hf hP hD hS hl
    unfold F_X12_system_c222 at hf
    refine lv_iload_n hx hb dX12_system_222 rfl (lv_at hl 1 rfl) ?_
    refine lv_sipush (v := 6672) hx hb dX12_system_223 (by decide) ?_
    refine lv_icmp_ne (tgt := 239) hx hb dX12_system_226 (by decide) (fun c_226 => ?_) (fun c_226 => ?_)
    · rw [if_neg c_226] at hf
      exact J_c239 τ w1 w3 w5 H locs ls hf hP hD hS (lv_sub hl [0, 1, 2, 3] rfl)
    · rw [if_pos c_226] at hf
      refine lv_aload_n hx hb dX12_system_229 rfl (lv_at hl 0 rfl) ?_
      refine fg_X12_flags S hK hP tf_X12_25 dX12_system_230 ?_
      refine lv_i2l hx hb dX12_system_233 rfl ?_
      refine lv_bipush (v := 28) hx hb dX12_system_234 (by decide) ?_
      refine lv_lshl (v := (j_lshl (m_flags τ).toInt64 (28 : Int32))) hx hb dX12_system_236 rfl ?_
      refine lv_lstore (lv' := [(5, .long (j_lshl (m_flags τ).toInt64 (28 : Int32))), (0, .ref (r 0)), (1, .int w1), (3, .int w3)]) hx hb dX12_system_237 hl (by decide) rfl (fun ls hl => ?_)
      exact J_c239 τ w1 w3 (j_lshl (m_flags τ).toInt64 (28 : Int32)) H locs ls hf hP hD hS (lv_sub hl [1, 2, 3, 0] rfl)
  have J_c204 : ∀ (τ : MS) (w1 : Int32) (w3 : Int32) (w5 : Int64) (H : Heap) (locs : List Loc) (ls : Array Slot), F_X12_system_c204 τ w1 w3 w5 = some res → va_P z.1 vwCl (mW z r τ) H → va_D A (mW z r τ) → va_S A s.heap H locs → lv_has ls 7 [(0, .ref (r 0)), (1, .int w1), (3, .int w3), (5, .long w5)] → W p l e { frames := 3, cells := 0, slots := 0, locals := 72 } s m ([.ref (r 0)] : List Value).toArray below meth c H locs 0 0 Q (F0 m 204 ls []) := by
    intro τ w1 w3 w5 H locs ls hf hP hD hS hl
    unfold F_X12_system_c204 at hf
    refine lv_iload_n hx hb dX12_system_204 rfl (lv_at hl 1 rfl) ?_
    refine lv_sipush (v := 530) hx hb dX12_system_205 (by decide) ?_
    refine lv_icmp_ne (tgt := 222) hx hb dX12_system_208 (by decide) (fun c_208 => ?_) (fun c_208 => ?_)
    · rw [if_neg c_208] at hf
      exact J_c222 τ w1 w3 w5 H locs ls hf hP hD hS (lv_sub hl [0, 1, 2, 3] rfl)
    · rw [if_pos c_208] at hf
      refine lv_ldc2 (v := 4) hx hb hown (hts _ tk_X12_90) dX12_system_211 ?_
      refine lv_aload_n hx hb dX12_system_214 rfl (lv_at hl 0 rfl) ?_
      refine fg_X12_level S hK hP tf_X12_28 dX12_system_215 ?_
      refine lv_i2l hx hb dX12_system_218 rfl ?_
      refine lv_lmul hx hb dX12_system_219 ?_
      refine lv_lstore (lv' := [(5, .long ((4 : Int64) * (m_level τ).toInt64)), (0, .ref (r 0)), (1, .int w1), (3, .int w3)]) hx hb dX12_system_220 hl (by decide) rfl (fun ls hl => ?_)
      exact J_c222 τ w1 w3 ((4 : Int64) * (m_level τ).toInt64) H locs ls hf hP hD hS (lv_sub hl [1, 2, 3, 0] rfl)
  have J_c190 : ∀ (τ : MS) (w1 : Int32) (w3 : Int32) (w5 : Int64) (H : Heap) (locs : List Loc) (ls : Array Slot), F_X12_system_c190 τ w1 w3 w5 = some res → va_P z.1 vwCl (mW z r τ) H → va_D A (mW z r τ) → va_S A s.heap H locs → lv_has ls 7 [(0, .ref (r 0)), (1, .int w1), (3, .int w3), (5, .long w5)] → W p l e { frames := 3, cells := 0, slots := 0, locals := 72 } s m ([.ref (r 0)] : List Value).toArray below meth c H locs 0 0 Q (F0 m 190 ls []) := by
    intro τ w1 w3 w5 H locs ls hf hP hD hS hl
    unfold F_X12_system_c190 at hf
    refine lv_iload_n hx hb dX12_system_190 rfl (lv_at hl 1 rfl) ?_
    refine lv_sipush (v := 528) hx hb dX12_system_191 (by decide) ?_
    refine lv_icmp_ne (tgt := 204) hx hb dX12_system_194 (by decide) (fun c_194 => ?_) (fun c_194 => ?_)
    · rw [if_neg c_194] at hf
      exact J_c204 τ w1 w3 w5 H locs ls hf hP hD hS (lv_sub hl [0, 1, 2, 3] rfl)
    · rw [if_pos c_194] at hf
      refine lv_aload_n hx hb dX12_system_197 rfl (lv_at hl 0 rfl) ?_
      refine fg_X12_select S hK hP tf_X12_31 dX12_system_198 ?_
      refine lv_i2l hx hb dX12_system_201 rfl ?_
      refine lv_lstore (lv' := [(5, .long (m_select τ).toInt64), (0, .ref (r 0)), (1, .int w1), (3, .int w3)]) hx hb dX12_system_202 hl (by decide) rfl (fun ls hl => ?_)
      exact J_c204 τ w1 w3 (m_select τ).toInt64 H locs ls hf hP hD hS (lv_sub hl [1, 2, 3, 0] rfl)
  have J_c169 : ∀ (τ : MS) (w1 : Int32) (w2 : Bool) (w3 : Int32) (w4 : Int32) (H : Heap) (locs : List Loc) (ls : Array Slot), F_X12_system_c169 τ w1 w2 w3 w4 = some res → va_P z.1 vwCl (mW z r τ) H → va_D A (mW z r τ) → va_S A s.heap H locs → lv_has ls 7 [(0, .ref (r 0)), (1, .int w1), (2, .int (zB w2)), (3, .int w3), (4, .int w4)] → W p l e { frames := 3, cells := 0, slots := 0, locals := 72 } s m ([.ref (r 0)] : List Value).toArray below meth c H locs 0 0 Q (F0 m 169 ls []) := by
    intro τ w1 w2 w3 w4 H locs ls hf hP hD hS hl
    unfold F_X12_system_c169 at hf
    refine lv_iload_n hx hb dX12_system_169 rfl (lv_at hl 2 rfl) ?_
    refine gz_eq (tgt := 264) hx hb dX12_system_170 (by decide) (fun c_170 => ?_) (fun c_170 => ?_)
    · rw [if_neg c_170] at hf
      refine lv_aload_n hx hb dX12_system_264 rfl (lv_at hl 0 rfl) ?_
      refine lv_iload_n hx hb dX12_system_265 rfl (lv_at hl 3 rfl) ?_
      obtain ⟨v3, e_v3, hf⟩ := Option.bind_eq_some_iff.mp hf
      refine k_X12_reg (a0 := w3) (res := v3) (hres := e_v3) S hK hP tl_X12_161 ⟨Nat.le_of_ble_eq_true rfl, Nat.le_of_ble_eq_true rfl⟩ hl.1 (Nat.le_of_ble_eq_true rfl) dX12_system_266 ?_
      refine lv_lstore (lv' := [(5, .long v3), (0, .ref (r 0)), (1, .int w1), (2, .int (zB w2)), (3, .int w3), (4, .int w4)]) hx hb dX12_system_269 hl (by decide) rfl (fun ls hl => ?_)
      refine lv_iload hx hb dX12_system_271 (lv_at hl 5 rfl) ?_
      refine lv_if_lt (tgt := 285) hx hb dX12_system_273 (by decide) (fun c_273 => ?_) (fun c_273 => ?_)
      · rw [if_pos c_273] at hf
        exact J_c285 τ w1 v3 H locs ls hf hP hD hS (lv_sub hl [1, 2, 0] rfl)
      · rw [if_neg c_273] at hf
        refine lv_aload_n hx hb dX12_system_276 rfl (lv_at hl 1 rfl) ?_
        refine fg_X12_state S hK hP tf_X12_22 dX12_system_277 ?_
        refine lv_iload hx hb dX12_system_280 (lv_at hl 5 rfl) ?_
        refine lv_lload hx hb dX12_system_282 (lv_at hl 0 rfl) ?_
        by_cases c_284 : (w4 < 0 ∨ 11 ≤ w4.toNatClampNeg)
        · rw [if_pos c_284] at hf
          cases hf
        rw [if_neg c_284] at hf
        refine ar_m_state (x := v3) S hK hP hD hS c_284 dX12_system_284 (fun H locs hP hD hS => ?_)
        exact J_c285 (mu_state τ (vp_updL (m_state τ) w4.toNatClampNeg v3)) w1 v3 H locs ls hf hP hD hS (lv_sub hl [1, 2, 0] rfl)
    · rw [if_pos c_170] at hf
      refine lv_lconst (v := 0) hx hb dX12_system_173 (by decide) ?_
      refine lv_lstore (lv' := [(5, .long (0 : Int64)), (0, .ref (r 0)), (1, .int w1), (2, .int (zB w2)), (3, .int w3), (4, .int w4)]) hx hb dX12_system_174 hl (by decide) rfl (fun ls hl => ?_)
      refine lv_iload hx hb dX12_system_176 (lv_at hl 5 rfl) ?_
      refine lv_if_lt (tgt := 190) hx hb dX12_system_178 (by decide) (fun c_178 => ?_) (fun c_178 => ?_)
      · rw [if_pos c_178] at hf
        exact J_c190 τ w1 w3 (0 : Int64) H locs ls hf hP hD hS (lv_sub hl [1, 2, 4, 0] rfl)
      · rw [if_neg c_178] at hf
        refine lv_aload_n hx hb dX12_system_181 rfl (lv_at hl 1 rfl) ?_
        refine fg_X12_state S hK hP tf_X12_22 dX12_system_182 ?_
        refine lv_iload hx hb dX12_system_185 (lv_at hl 5 rfl) ?_
        by_cases c_187 : (w4 < 0 ∨ 11 ≤ w4.toNatClampNeg)
        · rw [if_pos c_187] at hf
          cases hf
        rw [if_neg c_187] at hf
        refine al_m_state S hK hP c_187 dX12_system_187 ?_
        refine lv_lstore (lv' := [(5, .long (m_state τ w4.toNatClampNeg)), (0, .ref (r 0)), (1, .int w1), (2, .int (zB w2)), (3, .int w3), (4, .int w4)]) hx hb dX12_system_188 hl (by decide) rfl (fun ls hl => ?_)
        exact J_c190 τ w1 w3 (m_state τ w4.toNatClampNeg) H locs ls hf hP hD hS (lv_sub hl [1, 2, 4, 0] rfl)
  have J_c154 : ∀ (τ : MS) (w5 : Int64) (H : Heap) (locs : List Loc) (ls : Array Slot), F_X12_system_c154 τ w5 = some res → va_P z.1 vwCl (mW z r τ) H → va_D A (mW z r τ) → va_S A s.heap H locs → lv_has ls 7 [(0, .ref (r 0)), (5, .long w5)] → W p l e { frames := 3, cells := 0, slots := 0, locals := 72 } s m ([.ref (r 0)] : List Value).toArray below meth c H locs 0 0 Q (F0 m 154 ls []) := by
    intro τ w5 H locs ls hf hP hD hS hl
    unfold F_X12_system_c154 at hf
    refine lv_aload_n hx hb dX12_system_154 rfl (lv_at hl 0 rfl) ?_
    refine lv_bipush (v := 24) hx hb dX12_system_155 (by decide) ?_
    refine lv_lload hx hb dX12_system_157 (lv_at hl 1 rfl) ?_
    refine lv_aload_n hx hb dX12_system_159 rfl (lv_at hl 0 rfl) ?_
    refine fg_X12_state S hK hP tf_X12_22 dX12_system_160 ?_
    refine lv_iconst (v := 2) hx hb dX12_system_163 (by decide) ?_
    refine al_m_state S hK hP (show vp_in (2 : Int32) 11 by unfold vp_in; decide) dX12_system_164 ?_
    refine k_X12_exception (a0 := (24 : Int32)) (a1 := w5) (a2 := (m_state τ (2 : Int32).toNatClampNeg)) S hK hA hP hD hS tl_X12_106 ⟨Nat.le_of_ble_eq_true rfl, Nat.le_of_ble_eq_true rfl⟩ hl.1 (Nat.le_of_ble_eq_true rfl) dX12_system_165 (fun H locs hP hD hS => ?_)
    exact hend (F_X12_exception τ (24 : Int32) w5 (m_state τ (2 : Int32).toNatClampNeg)) H locs 168 ls (Option.some.inj hf) hP hD hS dX12_system_168
  have J_c144 : ∀ (τ : MS) (w2 : Bool) (w5 : Int64) (H : Heap) (locs : List Loc) (ls : Array Slot), F_X12_system_c144 τ w2 w5 = some res → va_P z.1 vwCl (mW z r τ) H → va_D A (mW z r τ) → va_S A s.heap H locs → lv_has ls 7 [(0, .ref (r 0)), (2, .int (zB w2)), (5, .long w5)] → W p l e { frames := 3, cells := 0, slots := 0, locals := 72 } s m ([.ref (r 0)] : List Value).toArray below meth c H locs 0 0 Q (F0 m 144 ls []) := by
    intro τ w2 w5 H locs ls hf hP hD hS hl
    unfold F_X12_system_c144 at hf
    refine lv_iload_n hx hb dX12_system_144 rfl (lv_at hl 1 rfl) ?_
    refine gz_eq (tgt := 154) hx hb dX12_system_145 (by decide) (fun c_145 => ?_) (fun c_145 => ?_)
    · rw [if_neg c_145] at hf
      exact J_c154 τ w5 H locs ls hf hP hD hS (lv_sub hl [0, 2] rfl)
    · rw [if_pos c_145] at hf
      refine lv_lload hx hb dX12_system_148 (lv_at hl 2 rfl) ?_
      refine lv_lconst (v := 1) hx hb dX12_system_150 (by decide) ?_
      refine lv_lor hx hb dX12_system_151 ?_
      refine lv_lstore (lv' := [(5, .long (w5 ||| (1 : Int64))), (0, .ref (r 0)), (2, .int (zB w2))]) hx hb dX12_system_152 hl (by decide) rfl (fun ls hl => ?_)
      exact J_c154 τ (w5 ||| (1 : Int64)) H locs ls hf hP hD hS (lv_sub hl [1, 0] rfl)
  have J_c70 : ∀ (τ : MS) (w1 : Int32) (w2 : Bool) (w3 : Int32) (w4 : Int32) (H : Heap) (locs : List Loc) (ls : Array Slot), F_X12_system_c70 τ w1 w2 w3 w4 = some res → va_P z.1 vwCl (mW z r τ) H → va_D A (mW z r τ) → va_S A s.heap H locs → lv_has ls 7 [(0, .ref (r 0)), (1, .int w1), (2, .int (zB w2)), (3, .int w3), (4, .int w4)] → W p l e { frames := 3, cells := 0, slots := 0, locals := 72 } s m ([.ref (r 0)] : List Value).toArray below meth c H locs 0 0 Q (F0 m 70 ls []) := by
    intro τ w1 w2 w3 w4 H locs ls hf hP hD hS hl
    unfold F_X12_system_c70 at hf
    refine lv_aload_n hx hb dX12_system_70 rfl (lv_at hl 0 rfl) ?_
    refine fg_X12_level S hK hP tf_X12_28 dX12_system_71 ?_
    refine lv_if_ne (tgt := 169) hx hb dX12_system_74 (by decide) (fun c_74 => ?_) (fun c_74 => ?_)
    · rw [if_neg c_74] at hf
      exact J_c169 τ w1 w2 w3 w4 H locs ls hf hP hD hS (lv_sub hl [0, 1, 2, 3, 4] rfl)
    · rw [if_pos c_74] at hf
      refine lv_iload_n hx hb dX12_system_77 rfl (lv_at hl 1 rfl) ?_
      refine lv_sipush (v := 6672) hx hb dX12_system_78 (by decide) ?_
      refine lv_icmp_eq (tgt := 169) hx hb dX12_system_81 (by decide) (fun c_81 => ?_) (fun c_81 => ?_)
      · rw [if_pos c_81] at hf
        exact J_c169 τ w1 w2 w3 w4 H locs ls hf hP hD hS (lv_sub hl [0, 1, 2, 3, 4] rfl)
      · rw [if_neg c_81] at hf
        refine lv_iload_n hx hb dX12_system_84 rfl (lv_at hl 1 rfl) ?_
        refine lv_sipush (v := 7810) hx hb dX12_system_85 (by decide) ?_
        refine lv_icmp_eq (tgt := 169) hx hb dX12_system_88 (by decide) (fun c_88 => ?_) (fun c_88 => ?_)
        · rw [if_pos c_88] at hf
          exact J_c169 τ w1 w2 w3 w4 H locs ls hf hP hD hS (lv_sub hl [0, 1, 2, 3, 4] rfl)
        · rw [if_neg c_88] at hf
          refine lv_ldc2 (v := 3145728) hx hb hown (hts _ tk_X12_228) dX12_system_91 ?_
          refine lv_iload_n hx hb dX12_system_94 rfl (lv_at hl 1 rfl) ?_
          refine lv_bipush (v := 8) hx hb dX12_system_95 (by decide) ?_
          refine lv_irem hx hb dX12_system_97 (by decide) ?_
          refine lv_i2l hx hb dX12_system_98 rfl ?_
          refine lv_bipush (v := 17) hx hb dX12_system_99 (by decide) ?_
          refine lv_lshl (v := (j_lshl (w1 - w1 / (8 : Int32) * (8 : Int32)).toInt64 (17 : Int32))) hx hb dX12_system_101 rfl ?_
          refine lv_lor hx hb dX12_system_102 ?_
          refine lv_iload_n hx hb dX12_system_103 rfl (lv_at hl 1 rfl) ?_
          refine lv_sipush (v := 2048) hx hb dX12_system_104 (by decide) ?_
          refine lv_idiv hx hb dX12_system_107 (by decide) ?_
          refine lv_i2l hx hb dX12_system_108 rfl ?_
          refine lv_bipush (v := 14) hx hb dX12_system_109 (by decide) ?_
          refine lv_lshl (v := (j_lshl (w1 / (2048 : Int32)).toInt64 (14 : Int32))) hx hb dX12_system_111 rfl ?_
          refine lv_lor hx hb dX12_system_112 ?_
          refine lv_iload_n hx hb dX12_system_113 rfl (lv_at hl 1 rfl) ?_
          refine lv_sipush (v := 128) hx hb dX12_system_114 (by decide) ?_
          refine lv_idiv hx hb dX12_system_117 (by decide) ?_
          refine lv_bipush (v := 16) hx hb dX12_system_118 (by decide) ?_
          refine lv_irem hx hb dX12_system_120 (by decide) ?_
          refine lv_i2l hx hb dX12_system_121 rfl ?_
          refine lv_bipush (v := 10) hx hb dX12_system_122 (by decide) ?_
          refine lv_lshl (v := (j_lshl ((w1 / (128 : Int32)) - (w1 / (128 : Int32)) / (16 : Int32) * (16 : Int32)).toInt64 (10 : Int32))) hx hb dX12_system_124 rfl ?_
          refine lv_lor hx hb dX12_system_125 ?_
          refine lv_iload_n hx hb dX12_system_126 rfl (lv_at hl 3 rfl) ?_
          refine lv_i2l hx hb dX12_system_127 rfl ?_
          refine lv_iconst (v := 5) hx hb dX12_system_128 (by decide) ?_
          refine lv_lshl (v := (j_lshl w3.toInt64 (5 : Int32))) hx hb dX12_system_129 rfl ?_
          refine lv_lor hx hb dX12_system_130 ?_
          refine lv_iload_n hx hb dX12_system_131 rfl (lv_at hl 1 rfl) ?_
          refine lv_bipush (v := 8) hx hb dX12_system_132 (by decide) ?_
          refine lv_idiv hx hb dX12_system_134 (by decide) ?_
          refine lv_bipush (v := 16) hx hb dX12_system_135 (by decide) ?_
          refine lv_irem hx hb dX12_system_137 (by decide) ?_
          refine lv_i2l hx hb dX12_system_138 rfl ?_
          refine lv_iconst (v := 1) hx hb dX12_system_139 (by decide) ?_
          refine lv_lshl (v := (j_lshl ((w1 / (8 : Int32)) - (w1 / (8 : Int32)) / (16 : Int32) * (16 : Int32)).toInt64 (1 : Int32))) hx hb dX12_system_140 rfl ?_
          refine lv_lor hx hb dX12_system_141 ?_
          refine lv_lstore (lv' := [(5, .long ((((((3145728 : Int64) ||| (j_lshl (w1 - w1 / (8 : Int32) * (8 : Int32)).toInt64 (17 : Int32))) ||| (j_lshl (w1 / (2048 : Int32)).toInt64 (14 : Int32))) ||| (j_lshl ((w1 / (128 : Int32)) - (w1 / (128 : Int32)) / (16 : Int32) * (16 : Int32)).toInt64 (10 : Int32))) ||| (j_lshl w3.toInt64 (5 : Int32))) ||| (j_lshl ((w1 / (8 : Int32)) - (w1 / (8 : Int32)) / (16 : Int32) * (16 : Int32)).toInt64 (1 : Int32)))), (0, .ref (r 0)), (1, .int w1), (2, .int (zB w2)), (3, .int w3), (4, .int w4)]) hx hb dX12_system_142 hl (by decide) rfl (fun ls hl => ?_)
          exact J_c144 τ w2 ((((((3145728 : Int64) ||| (j_lshl (w1 - w1 / (8 : Int32) * (8 : Int32)).toInt64 (17 : Int32))) ||| (j_lshl (w1 / (2048 : Int32)).toInt64 (14 : Int32))) ||| (j_lshl ((w1 / (128 : Int32)) - (w1 / (128 : Int32)) / (16 : Int32) * (16 : Int32)).toInt64 (10 : Int32))) ||| (j_lshl w3.toInt64 (5 : Int32))) ||| (j_lshl ((w1 / (8 : Int32)) - (w1 / (8 : Int32)) / (16 : Int32) * (16 : Int32)).toInt64 (1 : Int32))) H locs ls hf hP hD hS (lv_sub hl [1, 3, 0] rfl)
  have J_c65 : ∀ (τ : MS) (H : Heap) (locs : List Loc) (ls : Array Slot), F_X12_system_c65 τ = some res → va_P z.1 vwCl (mW z r τ) H → va_D A (mW z r τ) → va_S A s.heap H locs → lv_has ls 7 [(0, .ref (r 0))] → W p l e { frames := 3, cells := 0, slots := 0, locals := 72 } s m ([.ref (r 0)] : List Value).toArray below meth c H locs 0 0 Q (F0 m 65 ls []) := by
    intro τ H locs ls hf hP hD hS hl
    unfold F_X12_system_c65 at hf
    refine lv_aload_n hx hb dX12_system_65 rfl (lv_at hl 0 rfl) ?_
    refine k_X12_none S hK hA hP hD hS tl_X12_158 ⟨Nat.le_of_ble_eq_true rfl, Nat.le_of_ble_eq_true rfl⟩ hl.1 (Nat.le_of_ble_eq_true rfl) dX12_system_66 (fun H locs hP hD hS => ?_)
    exact hend (F_X12_none τ) H locs 69 ls (Option.some.inj hf) hP hD hS dX12_system_69
  have J_c28 : ∀ (τ : MS) (w1 : Int32) (w2 : Bool) (w3 : Int32) (w4 : Int32) (H : Heap) (locs : List Loc) (ls : Array Slot), F_X12_system_c28 τ w1 w2 w3 w4 = some res → va_P z.1 vwCl (mW z r τ) H → va_D A (mW z r τ) → va_S A s.heap H locs → lv_has ls 7 [(0, .ref (r 0)), (1, .int w1), (2, .int (zB w2)), (3, .int w3), (4, .int w4)] → W p l e { frames := 3, cells := 0, slots := 0, locals := 72 } s m ([.ref (r 0)] : List Value).toArray below meth c H locs 0 0 Q (F0 m 28 ls []) := by
    intro τ w1 w2 w3 w4 H locs ls hf hP hD hS hl
    unfold F_X12_system_c28 at hf
    refine lv_iload hx hb dX12_system_28 (lv_at hl 4 rfl) ?_
    refine lv_if_ge (tgt := 70) hx hb dX12_system_30 (by decide) (fun c_30 => ?_) (fun c_30 => ?_)
    · rw [if_pos c_30] at hf
      exact J_c70 τ w1 w2 w3 w4 H locs ls hf hP hD hS (lv_sub hl [0, 1, 2, 3, 4] rfl)
    · rw [if_neg c_30] at hf
      refine lv_iload_n hx hb dX12_system_33 rfl (lv_at hl 1 rfl) ?_
      refine lv_sipush (v := 528) hx hb dX12_system_34 (by decide) ?_
      refine lv_icmp_eq (tgt := 70) hx hb dX12_system_37 (by decide) (fun c_37 => ?_) (fun c_37 => ?_)
      · rw [if_pos c_37] at hf
        exact J_c70 τ w1 w2 w3 w4 H locs ls hf hP hD hS (lv_sub hl [0, 1, 2, 3, 4] rfl)
      · rw [if_neg c_37] at hf
        refine lv_iload_n hx hb dX12_system_40 rfl (lv_at hl 1 rfl) ?_
        refine lv_sipush (v := 6672) hx hb dX12_system_41 (by decide) ?_
        refine lv_icmp_eq (tgt := 70) hx hb dX12_system_44 (by decide) (fun c_44 => ?_) (fun c_44 => ?_)
        · rw [if_pos c_44] at hf
          exact J_c70 τ w1 w2 w3 w4 H locs ls hf hP hD hS (lv_sub hl [0, 1, 2, 3, 4] rfl)
        · rw [if_neg c_44] at hf
          refine lv_iload_n hx hb dX12_system_47 rfl (lv_at hl 1 rfl) ?_
          refine lv_sipush (v := 6673) hx hb dX12_system_48 (by decide) ?_
          refine lv_icmp_eq (tgt := 70) hx hb dX12_system_51 (by decide) (fun c_51 => ?_) (fun c_51 => ?_)
          · rw [if_pos c_51] at hf
            exact J_c70 τ w1 w2 w3 w4 H locs ls hf hP hD hS (lv_sub hl [0, 1, 2, 3, 4] rfl)
          · rw [if_neg c_51] at hf
            refine lv_iload_n hx hb dX12_system_54 rfl (lv_at hl 1 rfl) ?_
            refine lv_sipush (v := 530) hx hb dX12_system_55 (by decide) ?_
            refine lv_icmp_ne (tgt := 65) hx hb dX12_system_58 (by decide) (fun c_58 => ?_) (fun c_58 => ?_)
            · rw [if_neg c_58] at hf
              exact J_c65 τ H locs ls hf hP hD hS (lv_sub hl [0] rfl)
            · rw [if_pos c_58] at hf
              refine lv_iload_n hx hb dX12_system_61 rfl (lv_at hl 2 rfl) ?_
              refine gz_ne (tgt := 70) hx hb dX12_system_62 (by decide) (fun c_62 => ?_) (fun c_62 => ?_)
              · rw [if_pos c_62] at hf
                exact J_c70 τ w1 w2 w3 w4 H locs ls hf hP hD hS (lv_sub hl [0, 1, 2, 3, 4] rfl)
              · rw [if_neg c_62] at hf
                exact J_c65 τ H locs ls hf hP hD hS (lv_sub hl [0] rfl)
  have J_c15 : ∀ (τ : MS) (w1 : Int32) (w2 : Bool) (H : Heap) (locs : List Loc) (ls : Array Slot), F_X12_system_c15 τ w1 w2 = some res → va_P z.1 vwCl (mW z r τ) H → va_D A (mW z r τ) → va_S A s.heap H locs → lv_has ls 7 [(0, .ref (r 0)), (1, .int w1), (2, .int (zB w2))] → W p l e { frames := 3, cells := 0, slots := 0, locals := 72 } s m ([.ref (r 0)] : List Value).toArray below meth c H locs 0 0 Q (F0 m 15 ls []) := by
    intro τ w1 w2 H locs ls hf hP hD hS hl
    unfold F_X12_system_c15 at hf
    refine lv_aload_n hx hb dX12_system_15 rfl (lv_at hl 0 rfl) ?_
    refine lv_iconst (v := 4) hx hb dX12_system_16 (by decide) ?_
    refine lv_iconst (v := 0) hx hb dX12_system_17 (by decide) ?_
    obtain ⟨v2, e_v2, hf⟩ := Option.bind_eq_some_iff.mp hf
    refine k_X12_f (a0 := (4 : Int32)) (a1 := (0 : Int32)) (res := v2) (hres := e_v2) S hK hP tl_X12_121 ⟨Nat.le_of_ble_eq_true rfl, Nat.le_of_ble_eq_true rfl⟩ hl.1 (Nat.le_of_ble_eq_true rfl) dX12_system_18 ?_
    refine lv_istore_n (lv' := [(3, .int v2), (0, .ref (r 0)), (1, .int w1), (2, .int (zB w2))]) hx hb dX12_system_21 rfl hl (by decide) rfl (fun ls hl => ?_)
    refine lv_iload_n hx hb dX12_system_22 rfl (lv_at hl 2 rfl) ?_
    refine k_X12_slot (a0 := w1) S tl_X12_224 ⟨Nat.le_of_ble_eq_true rfl, Nat.le_of_ble_eq_true rfl⟩ hl.1 (Nat.le_of_ble_eq_true rfl) dX12_system_23 ?_
    refine lv_istore (lv' := [(4, .int (F_X12_slot w1)), (3, .int v2), (0, .ref (r 0)), (1, .int w1), (2, .int (zB w2))]) hx hb dX12_system_26 hl (by decide) rfl (fun ls hl => ?_)
    exact J_c28 τ w1 w2 v2 (F_X12_slot w1) H locs ls hf hP hD hS (lv_sub hl [2, 3, 4, 1, 0] rfl)
  unfold F_X12_system at hf
  refine lv_aload_n hx hb dX12_system_0 rfl (lv_at hl 0 rfl) ?_
  refine lv_bipush (v := 18) hx hb dX12_system_1 (by decide) ?_
  refine lv_iconst (v := 5) hx hb dX12_system_3 (by decide) ?_
  obtain ⟨v1, e_v1, hf⟩ := Option.bind_eq_some_iff.mp hf
  refine k_X12_f (a0 := (18 : Int32)) (a1 := (5 : Int32)) (res := v1) (hres := e_v1) S hK hP tl_X12_121 ⟨Nat.le_of_ble_eq_true rfl, Nat.le_of_ble_eq_true rfl⟩ hl.1 (Nat.le_of_ble_eq_true rfl) dX12_system_4 ?_
  refine lv_istore_n (lv' := [(1, .int v1), (0, .ref (r 0))]) hx hb dX12_system_7 rfl hl (by decide) rfl (fun ls hl => ?_)
  refine lv_aload_n hx hb dX12_system_8 rfl (lv_at hl 1 rfl) ?_
  refine lv_bipush (v := 21) hx hb dX12_system_9 (by decide) ?_
  refine k_X12_on (a0 := (21 : Int32)) S hK hP tl_X12_118 ⟨Nat.le_of_ble_eq_true rfl, Nat.le_of_ble_eq_true rfl⟩ hl.1 (Nat.le_of_ble_eq_true rfl) dX12_system_11 ?_
  refine lv_istore_n (lv' := [(2, .int (zB (F_X12_on σ (21 : Int32)))), (1, .int v1), (0, .ref (r 0))]) hx hb dX12_system_14 rfl hl (by decide) rfl (fun ls hl => ?_)
  exact J_c15 σ v1 (F_X12_on σ (21 : Int32)) H locs ls hf hP hD hS (lv_sub hl [2, 1, 0] rfl)
theorem k_X12_system {p : Program} {l : Launch} {e : Env} {R : Room} {s : State} {m : MethodId} {args : Array Value} {below : List Frame} {meth : Method} {c : Code} {H : Heap} {locs : List Loc} {Q : State → Prop} {cc : ByteArray} {pc : Nat} {ls : Array Slot} {rest : List Value} {own : String} {index nL : Nat} {A : Nat → Prop} {z : Cx} {r : Nat → Nat} {σ : MS} {res : MS} (hres : F_X12_system σ = some res) (S : CallFix p m c cc nL s args tbG own) (hK : va_K z.1 vwCl (cxT z) s) (hA : ∀ q, s.heap.size ≤ q → A q) (hP : va_P z.1 vwCl (mW z r σ) H) (hD : va_D A (mW z r σ)) (hS : va_S A s.heap H locs) (hl : Cond.methodLink own index yX12_system ∈ tbG) (hR : 3 + 1 ≤ R.frames ∧ 8 + (7 + 11) + 72 ≤ R.locals) (hsz : ls.size = nL) (hcat : (rest.map fun v => v.category).sum ≤ 8) (hdg : decode cc pc = .ok (.invokevirtual index, 3)) (kk : ∀ (H : Heap) (locs : List Loc), va_P z.1 vwCl (mW z r res) H → va_D A (mW z r res) → va_S A s.heap H locs → W p l e R s m args below meth c H locs 0 0 Q (F0 m (pc + 3) ls (rest))) : W p l e R s m args below meth c H locs 0 0 Q (F0 m pc ls (.ref (r 0) :: rest)) :=
  km (As := []) (ov := none) (w' := mW z r res) (q0 := 0) (ci := 11) S hK hA hP hD hS (c_X12_system l z r σ H.size _ hres) ⟨tb_cB 0 S.2.2.2.2 tc_X12_system ti_X12 hl rfl rfl (by decide +kernel) hR, S.2.2.2.2 _ tm_X12_system, S.2.2.2.2 _ te_X12_system⟩ rfl rfl rfl rfl hsz rfl hcat hdg kk

theorem dX12_sets_0 : decode cX12_sets 0 = .ok (.aload_n 0, 1) := by decide +kernel
theorem dX12_sets_1 : decode cX12_sets 1 = .ok (.bipush 18, 2) := by decide +kernel
theorem dX12_sets_3 : decode cX12_sets 3 = .ok (.bipush 16, 2) := by decide +kernel
theorem dX12_sets_5 : decode cX12_sets 5 = .ok (.invokevirtual 121, 3) := by decide +kernel
theorem dX12_sets_8 : decode cX12_sets 8 = .ok (.istore_n 1, 1) := by decide +kernel
theorem dX12_sets_9 : decode cX12_sets 9 = .ok (.aload_n 0, 1) := by decide +kernel
theorem dX12_sets_10 : decode cX12_sets 10 = .ok (.bipush 7, 2) := by decide +kernel
theorem dX12_sets_12 : decode cX12_sets 12 = .ok (.iconst 5, 1) := by decide +kernel
theorem dX12_sets_13 : decode cX12_sets 13 = .ok (.invokevirtual 121, 3) := by decide +kernel
theorem dX12_sets_16 : decode cX12_sets 16 = .ok (.istore_n 2, 1) := by decide +kernel
theorem dX12_sets_17 : decode cX12_sets 17 = .ok (.iload_n 1, 1) := by decide +kernel
theorem dX12_sets_18 : decode cX12_sets 18 = .ok (.iconst 3, 1) := by decide +kernel
theorem dX12_sets_19 : decode cX12_sets 19 = .ok (.if_icmp .ne 19, 3) := by decide +kernel
theorem dX12_sets_22 : decode cX12_sets 22 = .ok (.iload_n 2, 1) := by decide +kernel
theorem dX12_sets_23 : decode cX12_sets 23 = .ok (.bipush 6, 2) := by decide +kernel
theorem dX12_sets_25 : decode cX12_sets 25 = .ok (.if_icmp .eq 9, 3) := by decide +kernel
theorem dX12_sets_28 : decode cX12_sets 28 = .ok (.iload_n 2, 1) := by decide +kernel
theorem dX12_sets_29 : decode cX12_sets 29 = .ok (.bipush 7, 2) := by decide +kernel
theorem dX12_sets_31 : decode cX12_sets 31 = .ok (.if_icmp .ne 7, 3) := by decide +kernel
theorem dX12_sets_34 : decode cX12_sets 34 = .ok (.iconst 1, 1) := by decide +kernel
theorem dX12_sets_35 : decode cX12_sets 35 = .ok (.goto 4, 3) := by decide +kernel
theorem dX12_sets_38 : decode cX12_sets 38 = .ok (.iconst 0, 1) := by decide +kernel
theorem dX12_sets_39 : decode cX12_sets 39 = .ok (.istore_n 3, 1) := by decide +kernel
theorem dX12_sets_40 : decode cX12_sets 40 = .ok (.aload_n 0, 1) := by decide +kernel
theorem dX12_sets_41 : decode cX12_sets 41 = .ok (.getfield 28, 3) := by decide +kernel
theorem dX12_sets_44 : decode cX12_sets 44 = .ok (.ifCond .eq 16, 3) := by decide +kernel
theorem dX12_sets_47 : decode cX12_sets 47 = .ok (.iload_n 3, 1) := by decide +kernel
theorem dX12_sets_48 : decode cX12_sets 48 = .ok (.ifCond .ne 17, 3) := by decide +kernel
theorem dX12_sets_51 : decode cX12_sets 51 = .ok (.iload_n 1, 1) := by decide +kernel
theorem dX12_sets_52 : decode cX12_sets 52 = .ok (.ifCond .ne 8, 3) := by decide +kernel
theorem dX12_sets_55 : decode cX12_sets 55 = .ok (.iload_n 2, 1) := by decide +kernel
theorem dX12_sets_56 : decode cX12_sets 56 = .ok (.iconst 5, 1) := by decide +kernel
theorem dX12_sets_57 : decode cX12_sets 57 = .ok (.if_icmp .eq 8, 3) := by decide +kernel
theorem dX12_sets_60 : decode cX12_sets 60 = .ok (.aload_n 0, 1) := by decide +kernel
theorem dX12_sets_61 : decode cX12_sets 61 = .ok (.invokevirtual 158, 3) := by decide +kernel
theorem dX12_sets_64 : decode cX12_sets 64 = .ok (.return_, 1) := by decide +kernel
theorem dX12_sets_65 : decode cX12_sets 65 = .ok (.iload_n 3, 1) := by decide +kernel
theorem dX12_sets_66 : decode cX12_sets 66 = .ok (.ifCond .ne 18, 3) := by decide +kernel
theorem dX12_sets_69 : decode cX12_sets 69 = .ok (.aload_n 0, 1) := by decide +kernel
theorem dX12_sets_70 : decode cX12_sets 70 = .ok (.aload_n 0, 1) := by decide +kernel
theorem dX12_sets_71 : decode cX12_sets 71 = .ok (.bipush 8, 2) := by decide +kernel
theorem dX12_sets_73 : decode cX12_sets 73 = .ok (.bipush 8, 2) := by decide +kernel
theorem dX12_sets_75 : decode cX12_sets 75 = .ok (.invokevirtual 121, 3) := by decide +kernel
theorem dX12_sets_78 : decode cX12_sets 78 = .ok (.putfield 31, 3) := by decide +kernel
theorem dX12_sets_81 : decode cX12_sets 81 = .ok (.goto 20, 3) := by decide +kernel
theorem dX12_sets_84 : decode cX12_sets 84 = .ok (.aload_n 0, 1) := by decide +kernel
theorem dX12_sets_85 : decode cX12_sets 85 = .ok (.bipush 9, 2) := by decide +kernel
theorem dX12_sets_87 : decode cX12_sets 87 = .ok (.invokevirtual 118, 3) := by decide +kernel
theorem dX12_sets_90 : decode cX12_sets 90 = .ok (.ifCond .eq 11, 3) := by decide +kernel
theorem dX12_sets_93 : decode cX12_sets 93 = .ok (.aload_n 0, 1) := by decide +kernel
theorem dX12_sets_94 : decode cX12_sets 94 = .ok (.bipush 7, 2) := by decide +kernel
theorem dX12_sets_96 : decode cX12_sets 96 = .ok (.iload_n 2, 1) := by decide +kernel
theorem dX12_sets_97 : decode cX12_sets 97 = .ok (.isub, 1) := by decide +kernel
theorem dX12_sets_98 : decode cX12_sets 98 = .ok (.putfield 34, 3) := by decide +kernel
theorem dX12_sets_101 : decode cX12_sets 101 = .ok (.return_, 1) := by decide +kernel
def F_X12_sets_c60 (τ : MS) : Option (MS) := some ((F_X12_none τ))
def F_X12_sets_c65 (τ : MS) (w2 : Int32) (w3 : Bool) : Option (MS) := (if w3 = true then (if (F_X12_on τ (9 : Int32)) = true then some ((mu_masked τ ((7 : Int32) - w2))) else some (τ)) else ((F_X12_f τ (8 : Int32) (8 : Int32)).bind fun v3 => some ((mu_select τ v3))))
def F_X12_sets_c39 (τ : MS) (w1 : Int32) (w2 : Int32) (s0 : Bool) : Option (MS) := (if (m_level τ) = 0 then (F_X12_sets_c60 τ) else (if s0 = true then (F_X12_sets_c65 τ w2 s0) else (if w1 = 0 then (if w2 = (5 : Int32) then (F_X12_sets_c65 τ w2 s0) else (F_X12_sets_c60 τ)) else (F_X12_sets_c60 τ))))
def F_X12_sets_c38 (τ : MS) (w1 : Int32) (w2 : Int32) : Option (MS) := (F_X12_sets_c39 τ w1 w2 false)
def F_X12_sets_c34 (τ : MS) (w1 : Int32) (w2 : Int32) : Option (MS) := (F_X12_sets_c39 τ w1 w2 true)
def F_X12_sets (σ : MS)  : Option (MS) := ((F_X12_f σ (18 : Int32) (16 : Int32)).bind fun v1 => ((F_X12_f σ (7 : Int32) (5 : Int32)).bind fun v2 => (if v1 = (3 : Int32) then (if v2 = (6 : Int32) then (F_X12_sets_c34 σ v1 v2) else (if v2 = (7 : Int32) then (F_X12_sets_c34 σ v1 v2) else (F_X12_sets_c38 σ v1 v2))) else (F_X12_sets_c38 σ v1 v2))))
set_option maxHeartbeats 4000000 in
set_option maxRecDepth 100000 in
theorem c_X12_sets (l : Launch) (z : Cx) (r : Nat → Nat) (σ : MS) (sz : Nat) (res : MS) (hf : F_X12_sets σ = some res) : Met l yX12_sets (wsC yX12_sets cX12_sets 4 none) { frames := 3, cells := 0, slots := 0, locals := 72 } (mPc z (mW z r σ) sz [.ref (r 0)]) (gM z (va_A (mW z r σ) sz) none (mW z r res)) 0 0 (va_A (mW z r σ) sz) := by
  refine mk_m_v (own := RX12) (wf := mW z r) (by decide) rfl sz _ (Nat.le_of_ble_eq_true rfl) (fun p e s m below meth c A H locs Q ls S hK hA hP hD hS hl hend => ?_)
  have hx := S.1
  have hb := S.2.1
  have hown := S.2.2.2.1
  have hts := S.2.2.2.2
  have hl : lv_has ls 4 [(0, .ref (r 0))] := hl
  have J_c60 : ∀ (τ : MS) (H : Heap) (locs : List Loc) (ls : Array Slot), F_X12_sets_c60 τ = some res → va_P z.1 vwCl (mW z r τ) H → va_D A (mW z r τ) → va_S A s.heap H locs → lv_has ls 4 [(0, .ref (r 0))] → W p l e { frames := 3, cells := 0, slots := 0, locals := 72 } s m ([.ref (r 0)] : List Value).toArray below meth c H locs 0 0 Q (F0 m 60 ls []) := by
    intro τ H locs ls hf hP hD hS hl
    unfold F_X12_sets_c60 at hf
    refine lv_aload_n hx hb dX12_sets_60 rfl (lv_at hl 0 rfl) ?_
    refine k_X12_none S hK hA hP hD hS tl_X12_158 ⟨Nat.le_of_ble_eq_true rfl, Nat.le_of_ble_eq_true rfl⟩ hl.1 (Nat.le_of_ble_eq_true rfl) dX12_sets_61 (fun H locs hP hD hS => ?_)
    exact hend (F_X12_none τ) H locs 64 ls (Option.some.inj hf) hP hD hS dX12_sets_64
  have J_c65 : ∀ (τ : MS) (w2 : Int32) (w3 : Bool) (H : Heap) (locs : List Loc) (ls : Array Slot), F_X12_sets_c65 τ w2 w3 = some res → va_P z.1 vwCl (mW z r τ) H → va_D A (mW z r τ) → va_S A s.heap H locs → lv_has ls 4 [(0, .ref (r 0)), (2, .int w2), (3, .int (zB w3))] → W p l e { frames := 3, cells := 0, slots := 0, locals := 72 } s m ([.ref (r 0)] : List Value).toArray below meth c H locs 0 0 Q (F0 m 65 ls []) := by
    intro τ w2 w3 H locs ls hf hP hD hS hl
    unfold F_X12_sets_c65 at hf
    refine lv_iload_n hx hb dX12_sets_65 rfl (lv_at hl 2 rfl) ?_
    refine gz_ne (tgt := 84) hx hb dX12_sets_66 (by decide) (fun c_66 => ?_) (fun c_66 => ?_)
    · rw [if_pos c_66] at hf
      refine lv_aload_n hx hb dX12_sets_84 rfl (lv_at hl 0 rfl) ?_
      refine lv_bipush (v := 9) hx hb dX12_sets_85 (by decide) ?_
      refine k_X12_on (a0 := (9 : Int32)) S hK hP tl_X12_118 ⟨Nat.le_of_ble_eq_true rfl, Nat.le_of_ble_eq_true rfl⟩ hl.1 (Nat.le_of_ble_eq_true rfl) dX12_sets_87 ?_
      refine gz_eq (tgt := 101) hx hb dX12_sets_90 (by decide) (fun c_90 => ?_) (fun c_90 => ?_)
      · rw [if_neg c_90] at hf
        exact hend τ H locs 101 ls (Option.some.inj hf) hP hD hS dX12_sets_101
      · rw [if_pos c_90] at hf
        refine lv_aload_n hx hb dX12_sets_93 rfl (lv_at hl 0 rfl) ?_
        refine lv_bipush (v := 7) hx hb dX12_sets_94 (by decide) ?_
        refine lv_iload_n hx hb dX12_sets_96 rfl (lv_at hl 1 rfl) ?_
        refine lv_isub hx hb dX12_sets_97 ?_
        refine fp_X12_masked (v := ((7 : Int32) - w2)) S hK hP hD hS tf_X12_34 dX12_sets_98 (fun H locs hP hD hS => ?_)
        exact hend (mu_masked τ ((7 : Int32) - w2)) H locs 101 ls (Option.some.inj hf) hP hD hS dX12_sets_101
    · rw [if_neg c_66] at hf
      refine lv_aload_n hx hb dX12_sets_69 rfl (lv_at hl 0 rfl) ?_
      refine lv_aload_n hx hb dX12_sets_70 rfl (lv_at hl 0 rfl) ?_
      refine lv_bipush (v := 8) hx hb dX12_sets_71 (by decide) ?_
      refine lv_bipush (v := 8) hx hb dX12_sets_73 (by decide) ?_
      obtain ⟨v3, e_v3, hf⟩ := Option.bind_eq_some_iff.mp hf
      refine k_X12_f (a0 := (8 : Int32)) (a1 := (8 : Int32)) (res := v3) (hres := e_v3) S hK hP tl_X12_121 ⟨Nat.le_of_ble_eq_true rfl, Nat.le_of_ble_eq_true rfl⟩ hl.1 (Nat.le_of_ble_eq_true rfl) dX12_sets_75 ?_
      refine fp_X12_select (v := v3) S hK hP hD hS tf_X12_31 dX12_sets_78 (fun H locs hP hD hS => ?_)
      refine lv_goto (tgt := 101) hx hb dX12_sets_81 (by decide) ?_
      exact hend (mu_select τ v3) H locs 101 ls (Option.some.inj hf) hP hD hS dX12_sets_101
  have J_c39 : ∀ (τ : MS) (w1 : Int32) (w2 : Int32) (s0 : Bool) (H : Heap) (locs : List Loc) (ls : Array Slot), F_X12_sets_c39 τ w1 w2 s0 = some res → va_P z.1 vwCl (mW z r τ) H → va_D A (mW z r τ) → va_S A s.heap H locs → lv_has ls 4 [(0, .ref (r 0)), (1, .int w1), (2, .int w2)] → W p l e { frames := 3, cells := 0, slots := 0, locals := 72 } s m ([.ref (r 0)] : List Value).toArray below meth c H locs 0 0 Q (F0 m 39 ls [.int (zB s0)]) := by
    intro τ w1 w2 s0 H locs ls hf hP hD hS hl
    unfold F_X12_sets_c39 at hf
    refine lv_istore_n (lv' := [(3, .int (zB s0)), (0, .ref (r 0)), (1, .int w1), (2, .int w2)]) hx hb dX12_sets_39 rfl hl (by decide) rfl (fun ls hl => ?_)
    refine lv_aload_n hx hb dX12_sets_40 rfl (lv_at hl 1 rfl) ?_
    refine fg_X12_level S hK hP tf_X12_28 dX12_sets_41 ?_
    refine lv_if_eq (tgt := 60) hx hb dX12_sets_44 (by decide) (fun c_44 => ?_) (fun c_44 => ?_)
    · rw [if_pos c_44] at hf
      exact J_c60 τ H locs ls hf hP hD hS (lv_sub hl [1] rfl)
    · rw [if_neg c_44] at hf
      refine lv_iload_n hx hb dX12_sets_47 rfl (lv_at hl 0 rfl) ?_
      refine gz_ne (tgt := 65) hx hb dX12_sets_48 (by decide) (fun c_48 => ?_) (fun c_48 => ?_)
      · rw [if_pos c_48] at hf
        exact J_c65 τ w2 s0 H locs ls hf hP hD hS (lv_sub hl [1, 3, 0] rfl)
      · rw [if_neg c_48] at hf
        refine lv_iload_n hx hb dX12_sets_51 rfl (lv_at hl 2 rfl) ?_
        refine lv_if_ne (tgt := 60) hx hb dX12_sets_52 (by decide) (fun c_52 => ?_) (fun c_52 => ?_)
        · rw [if_neg c_52] at hf
          exact J_c60 τ H locs ls hf hP hD hS (lv_sub hl [1] rfl)
        · rw [if_pos c_52] at hf
          refine lv_iload_n hx hb dX12_sets_55 rfl (lv_at hl 3 rfl) ?_
          refine lv_iconst (v := 5) hx hb dX12_sets_56 (by decide) ?_
          refine lv_icmp_eq (tgt := 65) hx hb dX12_sets_57 (by decide) (fun c_57 => ?_) (fun c_57 => ?_)
          · rw [if_pos c_57] at hf
            exact J_c65 τ w2 s0 H locs ls hf hP hD hS (lv_sub hl [1, 3, 0] rfl)
          · rw [if_neg c_57] at hf
            exact J_c60 τ H locs ls hf hP hD hS (lv_sub hl [1] rfl)
  have J_c38 : ∀ (τ : MS) (w1 : Int32) (w2 : Int32) (H : Heap) (locs : List Loc) (ls : Array Slot), F_X12_sets_c38 τ w1 w2 = some res → va_P z.1 vwCl (mW z r τ) H → va_D A (mW z r τ) → va_S A s.heap H locs → lv_has ls 4 [(0, .ref (r 0)), (1, .int w1), (2, .int w2)] → W p l e { frames := 3, cells := 0, slots := 0, locals := 72 } s m ([.ref (r 0)] : List Value).toArray below meth c H locs 0 0 Q (F0 m 38 ls []) := by
    intro τ w1 w2 H locs ls hf hP hD hS hl
    unfold F_X12_sets_c38 at hf
    refine lv_iconst (v := 0) hx hb dX12_sets_38 (by decide) ?_
    exact J_c39 τ w1 w2 false H locs ls hf hP hD hS (lv_sub hl [0, 1, 2] rfl)
  have J_c34 : ∀ (τ : MS) (w1 : Int32) (w2 : Int32) (H : Heap) (locs : List Loc) (ls : Array Slot), F_X12_sets_c34 τ w1 w2 = some res → va_P z.1 vwCl (mW z r τ) H → va_D A (mW z r τ) → va_S A s.heap H locs → lv_has ls 4 [(0, .ref (r 0)), (1, .int w1), (2, .int w2)] → W p l e { frames := 3, cells := 0, slots := 0, locals := 72 } s m ([.ref (r 0)] : List Value).toArray below meth c H locs 0 0 Q (F0 m 34 ls []) := by
    intro τ w1 w2 H locs ls hf hP hD hS hl
    unfold F_X12_sets_c34 at hf
    refine lv_iconst (v := 1) hx hb dX12_sets_34 (by decide) ?_
    refine lv_goto (tgt := 39) hx hb dX12_sets_35 (by decide) ?_
    exact J_c39 τ w1 w2 true H locs ls hf hP hD hS (lv_sub hl [0, 1, 2] rfl)
  unfold F_X12_sets at hf
  refine lv_aload_n hx hb dX12_sets_0 rfl (lv_at hl 0 rfl) ?_
  refine lv_bipush (v := 18) hx hb dX12_sets_1 (by decide) ?_
  refine lv_bipush (v := 16) hx hb dX12_sets_3 (by decide) ?_
  obtain ⟨v1, e_v1, hf⟩ := Option.bind_eq_some_iff.mp hf
  refine k_X12_f (a0 := (18 : Int32)) (a1 := (16 : Int32)) (res := v1) (hres := e_v1) S hK hP tl_X12_121 ⟨Nat.le_of_ble_eq_true rfl, Nat.le_of_ble_eq_true rfl⟩ hl.1 (Nat.le_of_ble_eq_true rfl) dX12_sets_5 ?_
  refine lv_istore_n (lv' := [(1, .int v1), (0, .ref (r 0))]) hx hb dX12_sets_8 rfl hl (by decide) rfl (fun ls hl => ?_)
  refine lv_aload_n hx hb dX12_sets_9 rfl (lv_at hl 1 rfl) ?_
  refine lv_bipush (v := 7) hx hb dX12_sets_10 (by decide) ?_
  refine lv_iconst (v := 5) hx hb dX12_sets_12 (by decide) ?_
  obtain ⟨v2, e_v2, hf⟩ := Option.bind_eq_some_iff.mp hf
  refine k_X12_f (a0 := (7 : Int32)) (a1 := (5 : Int32)) (res := v2) (hres := e_v2) S hK hP tl_X12_121 ⟨Nat.le_of_ble_eq_true rfl, Nat.le_of_ble_eq_true rfl⟩ hl.1 (Nat.le_of_ble_eq_true rfl) dX12_sets_13 ?_
  refine lv_istore_n (lv' := [(2, .int v2), (1, .int v1), (0, .ref (r 0))]) hx hb dX12_sets_16 rfl hl (by decide) rfl (fun ls hl => ?_)
  refine lv_iload_n hx hb dX12_sets_17 rfl (lv_at hl 1 rfl) ?_
  refine lv_iconst (v := 3) hx hb dX12_sets_18 (by decide) ?_
  refine lv_icmp_ne (tgt := 38) hx hb dX12_sets_19 (by decide) (fun c_19 => ?_) (fun c_19 => ?_)
  · rw [if_neg c_19] at hf
    exact J_c38 σ v1 v2 H locs ls hf hP hD hS (lv_sub hl [2, 1, 0] rfl)
  · rw [if_pos c_19] at hf
    refine lv_iload_n hx hb dX12_sets_22 rfl (lv_at hl 0 rfl) ?_
    refine lv_bipush (v := 6) hx hb dX12_sets_23 (by decide) ?_
    refine lv_icmp_eq (tgt := 34) hx hb dX12_sets_25 (by decide) (fun c_25 => ?_) (fun c_25 => ?_)
    · rw [if_pos c_25] at hf
      exact J_c34 σ v1 v2 H locs ls hf hP hD hS (lv_sub hl [2, 1, 0] rfl)
    · rw [if_neg c_25] at hf
      refine lv_iload_n hx hb dX12_sets_28 rfl (lv_at hl 0 rfl) ?_
      refine lv_bipush (v := 7) hx hb dX12_sets_29 (by decide) ?_
      refine lv_icmp_ne (tgt := 38) hx hb dX12_sets_31 (by decide) (fun c_31 => ?_) (fun c_31 => ?_)
      · rw [if_neg c_31] at hf
        exact J_c38 σ v1 v2 H locs ls hf hP hD hS (lv_sub hl [2, 1, 0] rfl)
      · rw [if_pos c_31] at hf
        exact J_c34 σ v1 v2 H locs ls hf hP hD hS (lv_sub hl [2, 1, 0] rfl)
theorem k_X12_sets {p : Program} {l : Launch} {e : Env} {R : Room} {s : State} {m : MethodId} {args : Array Value} {below : List Frame} {meth : Method} {c : Code} {H : Heap} {locs : List Loc} {Q : State → Prop} {cc : ByteArray} {pc : Nat} {ls : Array Slot} {rest : List Value} {own : String} {index nL : Nat} {A : Nat → Prop} {z : Cx} {r : Nat → Nat} {σ : MS} {res : MS} (hres : F_X12_sets σ = some res) (S : CallFix p m c cc nL s args tbG own) (hK : va_K z.1 vwCl (cxT z) s) (hA : ∀ q, s.heap.size ≤ q → A q) (hP : va_P z.1 vwCl (mW z r σ) H) (hD : va_D A (mW z r σ)) (hS : va_S A s.heap H locs) (hl : Cond.methodLink own index yX12_sets ∈ tbG) (hR : 3 + 1 ≤ R.frames ∧ 8 + (4 + 11) + 72 ≤ R.locals) (hsz : ls.size = nL) (hcat : (rest.map fun v => v.category).sum ≤ 8) (hdg : decode cc pc = .ok (.invokevirtual index, 3)) (kk : ∀ (H : Heap) (locs : List Loc), va_P z.1 vwCl (mW z r res) H → va_D A (mW z r res) → va_S A s.heap H locs → W p l e R s m args below meth c H locs 0 0 Q (F0 m (pc + 3) ls (rest))) : W p l e R s m args below meth c H locs 0 0 Q (F0 m pc ls (.ref (r 0) :: rest)) :=
  km (As := []) (ov := none) (w' := mW z r res) (q0 := 0) (ci := 11) S hK hA hP hD hS (c_X12_sets l z r σ H.size _ hres) ⟨tb_cB 0 S.2.2.2.2 tc_X12_sets ti_X12 hl rfl rfl (by decide +kernel) hR, S.2.2.2.2 _ tm_X12_sets, S.2.2.2.2 _ te_X12_sets⟩ rfl rfl rfl rfl hsz rfl hcat hdg kk

