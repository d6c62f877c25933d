theorem dX7_compare_0 : decode cX7_compare 0 = .ok (.iload_n 1, 1) := by decide +kernel
theorem dX7_compare_1 : decode cX7_compare 1 = .ok (.bipush 29, 2) := by decide +kernel
theorem dX7_compare_3 : decode cX7_compare 3 = .ok (.invokestatic 37, 3) := by decide +kernel
theorem dX7_compare_6 : decode cX7_compare 6 = .ok (.ifCond .eq 20, 3) := by decide +kernel
theorem dX7_compare_9 : decode cX7_compare 9 = .ok (.iload_n 1, 1) := by decide +kernel
theorem dX7_compare_10 : decode cX7_compare 10 = .ok (.bipush 10, 2) := by decide +kernel
theorem dX7_compare_12 : decode cX7_compare 12 = .ok (.invokestatic 37, 3) := by decide +kernel
theorem dX7_compare_15 : decode cX7_compare 15 = .ok (.ifCond .ne 11, 3) := by decide +kernel
theorem dX7_compare_18 : decode cX7_compare 18 = .ok (.iload_n 1, 1) := by decide +kernel
theorem dX7_compare_19 : decode cX7_compare 19 = .ok (.iconst 4, 1) := by decide +kernel
theorem dX7_compare_20 : decode cX7_compare 20 = .ok (.invokestatic 37, 3) := by decide +kernel
theorem dX7_compare_23 : decode cX7_compare 23 = .ok (.ifCond .eq 5, 3) := by decide +kernel
theorem dX7_compare_26 : decode cX7_compare 26 = .ok (.iconst 0, 1) := by decide +kernel
theorem dX7_compare_27 : decode cX7_compare 27 = .ok (.ireturn, 1) := by decide +kernel
theorem dX7_compare_28 : decode cX7_compare 28 = .ok (.aload_n 0, 1) := by decide +kernel
theorem dX7_compare_29 : decode cX7_compare 29 = .ok (.getfield 7, 3) := by decide +kernel
theorem dX7_compare_32 : decode cX7_compare 32 = .ok (.iload_n 1, 1) := by decide +kernel
theorem dX7_compare_33 : decode cX7_compare 33 = .ok (.bipush 12, 2) := by decide +kernel
theorem dX7_compare_35 : decode cX7_compare 35 = .ok (.iconst 4, 1) := by decide +kernel
theorem dX7_compare_36 : decode cX7_compare 36 = .ok (.invokestatic 17, 3) := by decide +kernel
theorem dX7_compare_39 : decode cX7_compare 39 = .ok (.invokevirtual 71, 3) := by decide +kernel
theorem dX7_compare_42 : decode cX7_compare 42 = .ok (.ifCond .eq 62, 3) := by decide +kernel
theorem dX7_compare_45 : decode cX7_compare 45 = .ok (.iload_n 1, 1) := by decide +kernel
theorem dX7_compare_46 : decode cX7_compare 46 = .ok (.bipush 11, 2) := by decide +kernel
theorem dX7_compare_48 : decode cX7_compare 48 = .ok (.invokestatic 37, 3) := by decide +kernel
theorem dX7_compare_51 : decode cX7_compare 51 = .ok (.ifCond .eq 14, 3) := by decide +kernel
theorem dX7_compare_54 : decode cX7_compare 54 = .ok (.iload_n 1, 1) := by decide +kernel
theorem dX7_compare_55 : decode cX7_compare 55 = .ok (.bipush 16, 2) := by decide +kernel
theorem dX7_compare_57 : decode cX7_compare 57 = .ok (.iconst 5, 1) := by decide +kernel
theorem dX7_compare_58 : decode cX7_compare 58 = .ok (.invokestatic 17, 3) := by decide +kernel
theorem dX7_compare_61 : decode cX7_compare 61 = .ok (.i2l, 1) := by decide +kernel
theorem dX7_compare_62 : decode cX7_compare 62 = .ok (.goto 8, 3) := by decide +kernel
theorem dX7_compare_65 : decode cX7_compare 65 = .ok (.aload_n 0, 1) := by decide +kernel
theorem dX7_compare_66 : decode cX7_compare 66 = .ok (.iload_n 1, 1) := by decide +kernel
theorem dX7_compare_67 : decode cX7_compare 67 = .ok (.invokevirtual 45, 3) := by decide +kernel
theorem dX7_compare_70 : decode cX7_compare 70 = .ok (.lstore_n 2, 1) := by decide +kernel
theorem dX7_compare_71 : decode cX7_compare 71 = .ok (.aload_n 0, 1) := by decide +kernel
theorem dX7_compare_72 : decode cX7_compare 72 = .ok (.getfield 13, 3) := by decide +kernel
theorem dX7_compare_75 : decode cX7_compare 75 = .ok (.aload_n 0, 1) := by decide +kernel
theorem dX7_compare_76 : decode cX7_compare 76 = .ok (.iload_n 1, 1) := by decide +kernel
theorem dX7_compare_77 : decode cX7_compare 77 = .ok (.invokevirtual 52, 3) := by decide +kernel
theorem dX7_compare_80 : decode cX7_compare 80 = .ok (.lload_n 2, 1) := by decide +kernel
theorem dX7_compare_81 : decode cX7_compare 81 = .ok (.iload_n 1, 1) := by decide +kernel
theorem dX7_compare_82 : decode cX7_compare 82 = .ok (.bipush 30, 2) := by decide +kernel
theorem dX7_compare_84 : decode cX7_compare 84 = .ok (.invokestatic 37, 3) := by decide +kernel
theorem dX7_compare_87 : decode cX7_compare 87 = .ok (.iload_n 1, 1) := by decide +kernel
theorem dX7_compare_88 : decode cX7_compare 88 = .ok (.ifCond .ge 7, 3) := by decide +kernel
theorem dX7_compare_91 : decode cX7_compare 91 = .ok (.iconst 1, 1) := by decide +kernel
theorem dX7_compare_92 : decode cX7_compare 92 = .ok (.goto 4, 3) := by decide +kernel
theorem dX7_compare_95 : decode cX7_compare 95 = .ok (.iconst 0, 1) := by decide +kernel
theorem dX7_compare_96 : decode cX7_compare 96 = .ok (.iconst 1, 1) := by decide +kernel
theorem dX7_compare_97 : decode cX7_compare 97 = .ok (.invokevirtual 55, 3) := by decide +kernel
theorem dX7_compare_100 : decode cX7_compare 100 = .ok (.pop2, 1) := by decide +kernel
theorem dX7_compare_101 : decode cX7_compare 101 = .ok (.goto 20, 3) := by decide +kernel
theorem dX7_compare_104 : decode cX7_compare 104 = .ok (.aload_n 0, 1) := by decide +kernel
theorem dX7_compare_105 : decode cX7_compare 105 = .ok (.getfield 7, 3) := by decide +kernel
theorem dX7_compare_108 : decode cX7_compare 108 = .ok (.bipush 42, 2) := by decide +kernel
theorem dX7_compare_110 : decode cX7_compare 110 = .ok (.iload_n 1, 1) := by decide +kernel
theorem dX7_compare_111 : decode cX7_compare 111 = .ok (.iconst 0, 1) := by decide +kernel
theorem dX7_compare_112 : decode cX7_compare 112 = .ok (.iconst 4, 1) := by decide +kernel
theorem dX7_compare_113 : decode cX7_compare 113 = .ok (.invokestatic 17, 3) := by decide +kernel
theorem dX7_compare_116 : decode cX7_compare 116 = .ok (.i2l, 1) := by decide +kernel
theorem dX7_compare_117 : decode cX7_compare 117 = .ok (.invokevirtual 75, 3) := by decide +kernel
theorem dX7_compare_120 : decode cX7_compare 120 = .ok (.pop, 1) := by decide +kernel
theorem dX7_compare_121 : decode cX7_compare 121 = .ok (.iconst 1, 1) := by decide +kernel
theorem dX7_compare_122 : decode cX7_compare 122 = .ok (.ireturn, 1) := by decide +kernel
def F_X7_compare_c120 (τ : XS) (a0 : Int32) (s0 : Bool) : Bool × XS := (true, τ)
def F_X7_compare_c96 (τ : XS) (a0 : Int32) (s1 : Int64) (s2 : Int64) (s3 : Bool) (s4 : Bool) : Bool × XS := (true, (F_X9_sum τ s1 s2 s3 s4 true).2)
def F_X7_compare_c70 (τ : XS) (a0 : Int32) (s0 : Int64) : Bool × XS := (if 0 ≤ a0 then (F_X7_compare_c96 τ a0 (F_X7_left τ a0) s0 (F_X1_isOne a0 (30 : Int32)) false) else (F_X7_compare_c96 τ a0 (F_X7_left τ a0) s0 (F_X1_isOne a0 (30 : Int32)) true))
def F_X7_compare (σ : XS) (a0 : Int32) : Bool × XS := (if (F_X1_isOne a0 (29 : Int32)) = true then (if (F_X1_isOne a0 (10 : Int32)) = true then (false, σ) else (if (F_X1_isOne a0 (4 : Int32)) = true then (false, σ) else (if (F_X8_meets σ (F_X1_field a0 (12 : Int32) (4 : Int32))) = true then (if (F_X1_isOne a0 (11 : Int32)) = true then (F_X7_compare_c70 σ a0 (F_X1_field a0 (16 : Int32) (5 : Int32)).toInt64) else (F_X7_compare_c70 σ a0 (F_X7_right σ a0))) else (F_X7_compare_c120 (F_X8_putPart σ (42 : Int32) (F_X1_field a0 (0 : Int32) (4 : Int32)).toInt64).2 a0 (F_X8_putPart σ (42 : Int32) (F_X1_field a0 (0 : Int32) (4 : Int32)).toInt64).1)))) else (false, σ))
set_option maxHeartbeats 4000000 in
set_option maxRecDepth 100000 in
theorem c_X7_compare (l : Launch) (z : Cx) (r : Nat → Nat) (σ : XS) (a0 : Int32) (sz : Nat) (res : Bool × XS) (hf : F_X7_compare σ a0 = res) : Met l yX7_compare (wsC yX7_compare cX7_compare 4 (some .boolean)) { frames := 3, cells := 0, slots := 0, locals := 80 } (mPc z (xW z r σ) sz [.ref (r 9), .int a0]) (gM z (va_A (xW z r σ) sz) (some (.int (zB res.1))) (xW z r res.2)) 0 0 (va_A (xW z r σ) sz) := by
  refine mk_m_z (own := RX7) (wf := xW z r) (by decide) rfl sz _ (Nat.le_of_ble_eq_true rfl) (fun p e s m below meth c A H locs Q ls S hK hA hP hD hS hl hend => ?_)
  have hx := S.1
  have hb := S.2.1
  have hown := S.2.2.2.1
  have hts := S.2.2.2.2
  have hl : lv_has ls 4 [(0, .ref (r 9)), (1, .int a0)] := hl
  have J_c120 : ∀ (τ : XS) (s0 : Bool) (H : Heap) (locs : List Loc) (ls : Array Slot), F_X7_compare_c120 τ a0 s0 = res → va_P z.1 vwCl (xW z r τ) H → va_D A (xW z r τ) → va_S A s.heap H locs → lv_has ls 4 [] → W p l e { frames := 3, cells := 0, slots := 0, locals := 80 } s m ([.ref (r 9), .int a0] : List Value).toArray below meth c H locs 0 0 Q (F0 m 120 ls [.int (zB s0)]) := by
    intro τ s0 H locs ls hf hP hD hS hl
    unfold F_X7_compare_c120 at hf
    refine lv_pop hx hb dX7_compare_120 rfl ?_
    refine lv_iconst (v := 1) hx hb dX7_compare_121 (by decide) ?_
    exact hend true τ H locs 122 ls hf hP hD hS dX7_compare_122
  have J_c96 : ∀ (τ : XS) (s1 : Int64) (s2 : Int64) (s3 : Bool) (s4 : Bool) (H : Heap) (locs : List Loc) (ls : Array Slot), F_X7_compare_c96 τ a0 s1 s2 s3 s4 = res → va_P z.1 vwCl (xW z r τ) H → va_D A (xW z r τ) → va_S A s.heap H locs → lv_has ls 4 [] → W p l e { frames := 3, cells := 0, slots := 0, locals := 80 } s m ([.ref (r 9), .int a0] : List Value).toArray below meth c H locs 0 0 Q (F0 m 96 ls [.int (zB s4), .int (zB s3), .long s2, .long s1, .ref (r 7)]) := by
    intro τ s1 s2 s3 s4 H locs ls hf hP hD hS hl
    unfold F_X7_compare_c96 at hf
    refine lv_iconst (v := 1) hx hb dX7_compare_96 (by decide) ?_
    refine k_X9_sum (a0 := s1) (a1 := s2) (a2 := s3) (a3 := s4) (a4 := true) S hK hA hP hD hS tl_X7_55 ⟨Nat.le_of_ble_eq_true rfl, Nat.le_of_ble_eq_true rfl⟩ hl.1 (Nat.le_of_ble_eq_true rfl) dX7_compare_97 (fun H locs hP hD hS => ?_)
    refine lv_pop2_2 hx hb dX7_compare_100 rfl ?_
    refine lv_goto (tgt := 121) hx hb dX7_compare_101 (by decide) ?_
    refine lv_iconst (v := 1) hx hb dX7_compare_121 (by decide) ?_
    exact hend true (F_X9_sum τ s1 s2 s3 s4 true).2 H locs 122 ls hf hP hD hS dX7_compare_122
  have J_c70 : ∀ (τ : XS) (s0 : Int64) (H : Heap) (locs : List Loc) (ls : Array Slot), F_X7_compare_c70 τ a0 s0 = res → va_P z.1 vwCl (xW z r τ) H → va_D A (xW z r τ) → va_S A s.heap H locs → lv_has ls 4 [(0, .ref (r 9)), (1, .int a0)] → W p l e { frames := 3, cells := 0, slots := 0, locals := 80 } s m ([.ref (r 9), .int a0] : List Value).toArray below meth c H locs 0 0 Q (F0 m 70 ls [.long s0]) := by
    intro τ s0 H locs ls hf hP hD hS hl
    unfold F_X7_compare_c70 at hf
    refine lv_lstore_n (lv' := [(2, .long s0), (0, .ref (r 9)), (1, .int a0)]) hx hb dX7_compare_70 rfl hl (by decide) rfl (fun ls hl => ?_)
    refine lv_aload_n hx hb dX7_compare_71 rfl (lv_at hl 1 rfl) ?_
    refine fg_X7_sums S hK hP tf_X7_13 dX7_compare_72 ?_
    refine lv_aload_n hx hb dX7_compare_75 rfl (lv_at hl 1 rfl) ?_
    refine lv_iload_n hx hb dX7_compare_76 rfl (lv_at hl 2 rfl) ?_
    refine k_X7_left (a0 := a0) S hK hP tl_X7_52 ⟨Nat.le_of_ble_eq_true rfl, Nat.le_of_ble_eq_true rfl⟩ hl.1 (Nat.le_of_ble_eq_true rfl) dX7_compare_77 ?_
    refine lv_lload_n hx hb dX7_compare_80 rfl (lv_at hl 0 rfl) ?_
    refine lv_iload_n hx hb dX7_compare_81 rfl (lv_at hl 2 rfl) ?_
    refine lv_bipush (v := 30) hx hb dX7_compare_82 (by decide) ?_
    refine k_X1_isOne (a0 := a0) (a1 := (30 : Int32)) S tl_X7_37 ⟨Nat.le_of_ble_eq_true rfl, Nat.le_of_ble_eq_true rfl⟩ hl.1 (Nat.le_of_ble_eq_true rfl) dX7_compare_84 ?_
    refine lv_iload_n hx hb dX7_compare_87 rfl (lv_at hl 2 rfl) ?_
    refine lv_if_ge (tgt := 95) hx hb dX7_compare_88 (by decide) (fun c_88 => ?_) (fun c_88 => ?_)
    · rw [if_pos c_88] at hf
      refine lv_iconst (v := 0) hx hb dX7_compare_95 (by decide) ?_
      exact J_c96 τ (F_X7_left τ a0) s0 (F_X1_isOne a0 (30 : Int32)) false H locs ls hf hP hD hS (lv_sub hl [] rfl)
    · rw [if_neg c_88] at hf
      refine lv_iconst (v := 1) hx hb dX7_compare_91 (by decide) ?_
      refine lv_goto (tgt := 96) hx hb dX7_compare_92 (by decide) ?_
      exact J_c96 τ (F_X7_left τ a0) s0 (F_X1_isOne a0 (30 : Int32)) true H locs ls hf hP hD hS (lv_sub hl [] rfl)
  unfold F_X7_compare at hf
  refine lv_iload_n hx hb dX7_compare_0 rfl (lv_at hl 1 rfl) ?_
  refine lv_bipush (v := 29) hx hb dX7_compare_1 (by decide) ?_
  refine k_X1_isOne (a0 := a0) (a1 := (29 : Int32)) S tl_X7_37 ⟨Nat.le_of_ble_eq_true rfl, Nat.le_of_ble_eq_true rfl⟩ hl.1 (Nat.le_of_ble_eq_true rfl) dX7_compare_3 ?_
  refine gz_eq (tgt := 26) hx hb dX7_compare_6 (by decide) (fun c_6 => ?_) (fun c_6 => ?_)
  · rw [if_neg c_6] at hf
    refine lv_iconst (v := 0) hx hb dX7_compare_26 (by decide) ?_
    exact hend false σ H locs 27 ls hf hP hD hS dX7_compare_27
  · rw [if_pos c_6] at hf
    refine lv_iload_n hx hb dX7_compare_9 rfl (lv_at hl 1 rfl) ?_
    refine lv_bipush (v := 10) hx hb dX7_compare_10 (by decide) ?_
    refine k_X1_isOne (a0 := a0) (a1 := (10 : Int32)) S tl_X7_37 ⟨Nat.le_of_ble_eq_true rfl, Nat.le_of_ble_eq_true rfl⟩ hl.1 (Nat.le_of_ble_eq_true rfl) dX7_compare_12 ?_
    refine gz_ne (tgt := 26) hx hb dX7_compare_15 (by decide) (fun c_15 => ?_) (fun c_15 => ?_)
    · rw [if_pos c_15] at hf
      refine lv_iconst (v := 0) hx hb dX7_compare_26 (by decide) ?_
      exact hend false σ H locs 27 ls hf hP hD hS dX7_compare_27
    · rw [if_neg c_15] at hf
      refine lv_iload_n hx hb dX7_compare_18 rfl (lv_at hl 1 rfl) ?_
      refine lv_iconst (v := 4) hx hb dX7_compare_19 (by decide) ?_
      refine k_X1_isOne (a0 := a0) (a1 := (4 : Int32)) S tl_X7_37 ⟨Nat.le_of_ble_eq_true rfl, Nat.le_of_ble_eq_true rfl⟩ hl.1 (Nat.le_of_ble_eq_true rfl) dX7_compare_20 ?_
      refine gz_eq (tgt := 28) hx hb dX7_compare_23 (by decide) (fun c_23 => ?_) (fun c_23 => ?_)
      · rw [if_neg c_23] at hf
        refine lv_aload_n hx hb dX7_compare_28 rfl (lv_at hl 0 rfl) ?_
        refine fg_X7_state S hK hP tf_X7_7 dX7_compare_29 ?_
        refine lv_iload_n hx hb dX7_compare_32 rfl (lv_at hl 1 rfl) ?_
        refine lv_bipush (v := 12) hx hb dX7_compare_33 (by decide) ?_
        refine lv_iconst (v := 4) hx hb dX7_compare_35 (by decide) ?_
        refine k_X1_field (a0 := a0) (a1 := (12 : Int32)) (a2 := (4 : Int32)) S tl_X7_17 ⟨Nat.le_of_ble_eq_true rfl, Nat.le_of_ble_eq_true rfl⟩ hl.1 (Nat.le_of_ble_eq_true rfl) dX7_compare_36 ?_
        refine k_X8_meets (a0 := (F_X1_field a0 (12 : Int32) (4 : Int32))) S hK hP tl_X7_71 ⟨Nat.le_of_ble_eq_true rfl, Nat.le_of_ble_eq_true rfl⟩ hl.1 (Nat.le_of_ble_eq_true rfl) dX7_compare_39 ?_
        refine gz_eq (tgt := 104) hx hb dX7_compare_42 (by decide) (fun c_42 => ?_) (fun c_42 => ?_)
        · rw [if_neg c_42] at hf
          refine lv_aload_n hx hb dX7_compare_104 rfl (lv_at hl 0 rfl) ?_
          refine fg_X7_state S hK hP tf_X7_7 dX7_compare_105 ?_
          refine lv_bipush (v := 42) hx hb dX7_compare_108 (by decide) ?_
          refine lv_iload_n hx hb dX7_compare_110 rfl (lv_at hl 1 rfl) ?_
          refine lv_iconst (v := 0) hx hb dX7_compare_111 (by decide) ?_
          refine lv_iconst (v := 4) hx hb dX7_compare_112 (by decide) ?_
          refine k_X1_field (a0 := a0) (a1 := (0 : Int32)) (a2 := (4 : Int32)) S tl_X7_17 ⟨Nat.le_of_ble_eq_true rfl, Nat.le_of_ble_eq_true rfl⟩ hl.1 (Nat.le_of_ble_eq_true rfl) dX7_compare_113 ?_
          refine lv_i2l hx hb dX7_compare_116 rfl ?_
          refine k_X8_putPart (a0 := (42 : Int32)) (a1 := (F_X1_field a0 (0 : Int32) (4 : Int32)).toInt64) S hK hA hP hD hS tl_X7_75 ⟨Nat.le_of_ble_eq_true rfl, Nat.le_of_ble_eq_true rfl⟩ hl.1 (Nat.le_of_ble_eq_true rfl) dX7_compare_117 (fun H locs hP hD hS => ?_)
          exact J_c120 (F_X8_putPart σ (42 : Int32) (F_X1_field a0 (0 : Int32) (4 : Int32)).toInt64).2 (F_X8_putPart σ (42 : Int32) (F_X1_field a0 (0 : Int32) (4 : Int32)).toInt64).1 H locs ls hf hP hD hS (lv_sub hl [] rfl)
        · rw [if_pos c_42] at hf
          refine lv_iload_n hx hb dX7_compare_45 rfl (lv_at hl 1 rfl) ?_
          refine lv_bipush (v := 11) hx hb dX7_compare_46 (by decide) ?_
          refine k_X1_isOne (a0 := a0) (a1 := (11 : Int32)) S tl_X7_37 ⟨Nat.le_of_ble_eq_true rfl, Nat.le_of_ble_eq_true rfl⟩ hl.1 (Nat.le_of_ble_eq_true rfl) dX7_compare_48 ?_
          refine gz_eq (tgt := 65) hx hb dX7_compare_51 (by decide) (fun c_51 => ?_) (fun c_51 => ?_)
          · rw [if_neg c_51] at hf
            refine lv_aload_n hx hb dX7_compare_65 rfl (lv_at hl 0 rfl) ?_
            refine lv_iload_n hx hb dX7_compare_66 rfl (lv_at hl 1 rfl) ?_
            refine k_X7_right (a0 := a0) S hK hP tl_X7_45 ⟨Nat.le_of_ble_eq_true rfl, Nat.le_of_ble_eq_true rfl⟩ hl.1 (Nat.le_of_ble_eq_true rfl) dX7_compare_67 ?_
            exact J_c70 σ (F_X7_right σ a0) H locs ls hf hP hD hS (lv_sub hl [0, 1] rfl)
          · rw [if_pos c_51] at hf
            refine lv_iload_n hx hb dX7_compare_54 rfl (lv_at hl 1 rfl) ?_
            refine lv_bipush (v := 16) hx hb dX7_compare_55 (by decide) ?_
            refine lv_iconst (v := 5) hx hb dX7_compare_57 (by decide) ?_
            refine k_X1_field (a0 := a0) (a1 := (16 : Int32)) (a2 := (5 : Int32)) S tl_X7_17 ⟨Nat.le_of_ble_eq_true rfl, Nat.le_of_ble_eq_true rfl⟩ hl.1 (Nat.le_of_ble_eq_true rfl) dX7_compare_58 ?_
            refine lv_i2l hx hb dX7_compare_61 rfl ?_
            refine lv_goto (tgt := 70) hx hb dX7_compare_62 (by decide) ?_
            exact J_c70 σ (F_X1_field a0 (16 : Int32) (5 : Int32)).toInt64 H locs ls hf hP hD hS (lv_sub hl [0, 1] rfl)
      · rw [if_pos c_23] at hf
        refine lv_iconst (v := 0) hx hb dX7_compare_26 (by decide) ?_
        exact hend false σ H locs 27 ls hf hP hD hS dX7_compare_27
theorem k_X7_compare {p : Program} {l : Launch} {e : Env} {R : Room} {s : State} {m : MethodId} {args : Array Value} {below : List Frame} {meth : Method} {c : Code} {H : Heap} {locs : List Loc} {Q : State → Prop} {cc : ByteArray} {pc : Nat} {ls : Array Slot} {rest : List Value} {own : String} {index nL : Nat} {A : Nat → Prop} {z : Cx} {r : Nat → Nat} {σ : XS} {a0 : Int32} (S : CallFix p m c cc nL s args tbG own) (hK : va_K z.1 vwCl (cxT z) s) (hA : ∀ q, s.heap.size ≤ q → A q) (hP : va_P z.1 vwCl (xW z r σ) H) (hD : va_D A (xW z r σ)) (hS : va_S A s.heap H locs) (hl : Cond.methodLink own index yX7_compare ∈ tbG) (hR : 3 + 1 ≤ R.frames ∧ 8 + (4 + 11) + 80 ≤ R.locals) (hsz : ls.size = nL) (hcat : (rest.map fun v => v.category).sum ≤ 8) (hdg : decode cc pc = .ok (.invokevirtual index, 3)) (kk : ∀ (H : Heap) (locs : List Loc), va_P z.1 vwCl (xW z r (F_X7_compare σ a0).2) H → va_D A (xW z r (F_X7_compare σ a0).2) → va_S A s.heap H locs → W p l e R s m args below meth c H locs 0 0 Q (F0 m (pc + 3) ls (.int (zB (F_X7_compare σ a0).1) :: rest))) : W p l e R s m args below meth c H locs 0 0 Q (F0 m pc ls (.int a0 :: .ref (r 9) :: rest)) :=
  km (As := [.int a0]) (ov := some (.int (zB (F_X7_compare σ a0).1))) (w' := xW z r (F_X7_compare σ a0).2) (q0 := 9) (ci := 6) S hK hA hP hD hS (c_X7_compare l z r σ a0 H.size _ rfl) ⟨tb_cB 1 S.2.2.2.2 tc_X7_compare ti_X7 hl rfl rfl (by decide +kernel) hR, S.2.2.2.2 _ tm_X7_compare, S.2.2.2.2 _ te_X7_compare⟩ rfl rfl rfl rfl hsz rfl hcat hdg kk

theorem dX7_choose_0 : decode cX7_choose 0 = .ok (.iload_n 1, 1) := by decide +kernel
theorem dX7_choose_1 : decode cX7_choose 1 = .ok (.bipush 29, 2) := by decide +kernel
theorem dX7_choose_3 : decode cX7_choose 3 = .ok (.invokestatic 37, 3) := by decide +kernel
theorem dX7_choose_6 : decode cX7_choose 6 = .ok (.ifCond .ne 12, 3) := by decide +kernel
theorem dX7_choose_9 : decode cX7_choose 9 = .ok (.iload_n 1, 1) := by decide +kernel
theorem dX7_choose_10 : decode cX7_choose 10 = .ok (.bipush 11, 2) := by decide +kernel
theorem dX7_choose_12 : decode cX7_choose 12 = .ok (.invokestatic 37, 3) := by decide +kernel
theorem dX7_choose_15 : decode cX7_choose 15 = .ok (.ifCond .eq 5, 3) := by decide +kernel
theorem dX7_choose_18 : decode cX7_choose 18 = .ok (.iconst 0, 1) := by decide +kernel
theorem dX7_choose_19 : decode cX7_choose 19 = .ok (.ireturn, 1) := by decide +kernel
theorem dX7_choose_20 : decode cX7_choose 20 = .ok (.aload_n 0, 1) := by decide +kernel
theorem dX7_choose_21 : decode cX7_choose 21 = .ok (.getfield 7, 3) := by decide +kernel
theorem dX7_choose_24 : decode cX7_choose 24 = .ok (.iload_n 1, 1) := by decide +kernel
theorem dX7_choose_25 : decode cX7_choose 25 = .ok (.bipush 12, 2) := by decide +kernel
theorem dX7_choose_27 : decode cX7_choose 27 = .ok (.iconst 4, 1) := by decide +kernel
theorem dX7_choose_28 : decode cX7_choose 28 = .ok (.invokestatic 17, 3) := by decide +kernel
theorem dX7_choose_31 : decode cX7_choose 31 = .ok (.invokevirtual 71, 3) := by decide +kernel
theorem dX7_choose_34 : decode cX7_choose 34 = .ok (.ifCond .eq 14, 3) := by decide +kernel
theorem dX7_choose_37 : decode cX7_choose 37 = .ok (.aload_n 0, 1) := by decide +kernel
theorem dX7_choose_38 : decode cX7_choose 38 = .ok (.iload_n 1, 1) := by decide +kernel
theorem dX7_choose_39 : decode cX7_choose 39 = .ok (.aload_n 0, 1) := by decide +kernel
theorem dX7_choose_40 : decode cX7_choose 40 = .ok (.iload_n 1, 1) := by decide +kernel
theorem dX7_choose_41 : decode cX7_choose 41 = .ok (.invokevirtual 52, 3) := by decide +kernel
theorem dX7_choose_44 : decode cX7_choose 44 = .ok (.invokevirtual 61, 3) := by decide +kernel
theorem dX7_choose_47 : decode cX7_choose 47 = .ok (.ireturn, 1) := by decide +kernel
theorem dX7_choose_48 : decode cX7_choose 48 = .ok (.aload_n 0, 1) := by decide +kernel
theorem dX7_choose_49 : decode cX7_choose 49 = .ok (.iload_n 1, 1) := by decide +kernel
theorem dX7_choose_50 : decode cX7_choose 50 = .ok (.invokevirtual 45, 3) := by decide +kernel
theorem dX7_choose_53 : decode cX7_choose 53 = .ok (.lstore_n 2, 1) := by decide +kernel
theorem dX7_choose_54 : decode cX7_choose 54 = .ok (.iload_n 1, 1) := by decide +kernel
theorem dX7_choose_55 : decode cX7_choose 55 = .ok (.bipush 30, 2) := by decide +kernel
theorem dX7_choose_57 : decode cX7_choose 57 = .ok (.invokestatic 37, 3) := by decide +kernel
theorem dX7_choose_60 : decode cX7_choose 60 = .ok (.ifCond .eq 9, 3) := by decide +kernel
theorem dX7_choose_63 : decode cX7_choose 63 = .ok (.lload_n 2, 1) := by decide +kernel
theorem dX7_choose_64 : decode cX7_choose 64 = .ok (.ldc2_w 65, 3) := by decide +kernel
theorem dX7_choose_67 : decode cX7_choose 67 = .ok (.lxor, 1) := by decide +kernel
theorem dX7_choose_68 : decode cX7_choose 68 = .ok (.lstore_n 2, 1) := by decide +kernel
theorem dX7_choose_69 : decode cX7_choose 69 = .ok (.aload_n 0, 1) := by decide +kernel
theorem dX7_choose_70 : decode cX7_choose 70 = .ok (.iload_n 1, 1) := by decide +kernel
theorem dX7_choose_71 : decode cX7_choose 71 = .ok (.lload_n 2, 1) := by decide +kernel
theorem dX7_choose_72 : decode cX7_choose 72 = .ok (.iload_n 1, 1) := by decide +kernel
theorem dX7_choose_73 : decode cX7_choose 73 = .ok (.bipush 10, 2) := by decide +kernel
theorem dX7_choose_75 : decode cX7_choose 75 = .ok (.iconst 1, 1) := by decide +kernel
theorem dX7_choose_76 : decode cX7_choose 76 = .ok (.invokestatic 17, 3) := by decide +kernel
theorem dX7_choose_79 : decode cX7_choose 79 = .ok (.i2l, 1) := by decide +kernel
theorem dX7_choose_80 : decode cX7_choose 80 = .ok (.ladd, 1) := by decide +kernel
theorem dX7_choose_81 : decode cX7_choose 81 = .ok (.invokevirtual 61, 3) := by decide +kernel
theorem dX7_choose_84 : decode cX7_choose 84 = .ok (.ireturn, 1) := by decide +kernel
def F_X7_choose_c84 (τ : XS) (a0 : Int32) (s0 : Bool) : Bool × XS := (s0, τ)
def F_X7_choose_c69 (τ : XS) (a0 : Int32) (w2 : Int64) : Bool × XS := (F_X7_choose_c84 (F_X7_put τ a0 (w2 + (F_X1_field a0 (10 : Int32) (1 : Int32)).toInt64)).2 a0 (F_X7_put τ a0 (w2 + (F_X1_field a0 (10 : Int32) (1 : Int32)).toInt64)).1)
def F_X7_choose_c54 (τ : XS) (a0 : Int32) (w2 : Int64) : Bool × XS := (if (F_X1_isOne a0 (30 : Int32)) = true then (F_X7_choose_c69 τ a0 (w2 ^^^ (-1 : Int64))) else (F_X7_choose_c69 τ a0 w2))
def F_X7_choose (σ : XS) (a0 : Int32) : Bool × XS := (if (F_X1_isOne a0 (29 : Int32)) = true then (false, σ) else (if (F_X1_isOne a0 (11 : Int32)) = true then (false, σ) else (if (F_X8_meets σ (F_X1_field a0 (12 : Int32) (4 : Int32))) = true then ((F_X7_put σ a0 (F_X7_left σ a0)).1, (F_X7_put σ a0 (F_X7_left σ a0)).2) else (F_X7_choose_c54 σ a0 (F_X7_right σ a0)))))
set_option maxHeartbeats 4000000 in
set_option maxRecDepth 100000 in
theorem c_X7_choose (l : Launch) (z : Cx) (r : Nat → Nat) (σ : XS) (a0 : Int32) (sz : Nat) (res : Bool × XS) (hf : F_X7_choose σ a0 = res) : Met l yX7_choose (wsC yX7_choose cX7_choose 4 (some .boolean)) { frames := 3, cells := 0, slots := 0, locals := 69 } (mPc z (xW z r σ) sz [.ref (r 9), .int a0]) (gM z (va_A (xW z r σ) sz) (some (.int (zB res.1))) (xW z r res.2)) 0 0 (va_A (xW z r σ) sz) := by
  refine mk_m_z (own := RX7) (wf := xW z r) (by decide) rfl sz _ (Nat.le_of_ble_eq_true rfl) (fun p e s m below meth c A H locs Q ls S hK hA hP hD hS hl hend => ?_)
  have hx := S.1
  have hb := S.2.1
  have hown := S.2.2.2.1
  have hts := S.2.2.2.2
  have hl : lv_has ls 4 [(0, .ref (r 9)), (1, .int a0)] := hl
  have J_c84 : ∀ (τ : XS) (s0 : Bool) (H : Heap) (locs : List Loc) (ls : Array Slot), F_X7_choose_c84 τ a0 s0 = res → va_P z.1 vwCl (xW z r τ) H → va_D A (xW z r τ) → va_S A s.heap H locs → lv_has ls 4 [] → W p l e { frames := 3, cells := 0, slots := 0, locals := 69 } s m ([.ref (r 9), .int a0] : List Value).toArray below meth c H locs 0 0 Q (F0 m 84 ls [.int (zB s0)]) := by
    intro τ s0 H locs ls hf hP hD hS hl
    unfold F_X7_choose_c84 at hf
    exact hend s0 τ H locs 84 ls hf hP hD hS dX7_choose_84
  have J_c69 : ∀ (τ : XS) (w2 : Int64) (H : Heap) (locs : List Loc) (ls : Array Slot), F_X7_choose_c69 τ a0 w2 = res → va_P z.1 vwCl (xW z r τ) H → va_D A (xW z r τ) → va_S A s.heap H locs → lv_has ls 4 [(0, .ref (r 9)), (1, .int a0), (2, .long w2)] → W p l e { frames := 3, cells := 0, slots := 0, locals := 69 } s m ([.ref (r 9), .int a0] : List Value).toArray below meth c H locs 0 0 Q (F0 m 69 ls []) := by
    intro τ w2 H locs ls hf hP hD hS hl
    unfold F_X7_choose_c69 at hf
    refine lv_aload_n hx hb dX7_choose_69 rfl (lv_at hl 0 rfl) ?_
    refine lv_iload_n hx hb dX7_choose_70 rfl (lv_at hl 1 rfl) ?_
    refine lv_lload_n hx hb dX7_choose_71 rfl (lv_at hl 2 rfl) ?_
    refine lv_iload_n hx hb dX7_choose_72 rfl (lv_at hl 1 rfl) ?_
    refine lv_bipush (v := 10) hx hb dX7_choose_73 (by decide) ?_
    refine lv_iconst (v := 1) hx hb dX7_choose_75 (by decide) ?_
    refine k_X1_field (a0 := a0) (a1 := (10 : Int32)) (a2 := (1 : Int32)) S tl_X7_17 ⟨Nat.le_of_ble_eq_true rfl, Nat.le_of_ble_eq_true rfl⟩ hl.1 (Nat.le_of_ble_eq_true rfl) dX7_choose_76 ?_
    refine lv_i2l hx hb dX7_choose_79 rfl ?_
    refine lv_ladd hx hb dX7_choose_80 ?_
    refine k_X7_put (a0 := a0) (a1 := (w2 + (F_X1_field a0 (10 : Int32) (1 : Int32)).toInt64)) S hK hA hP hD hS tl_X7_61 ⟨Nat.le_of_ble_eq_true rfl, Nat.le_of_ble_eq_true rfl⟩ hl.1 (Nat.le_of_ble_eq_true rfl) dX7_choose_81 (fun H locs hP hD hS => ?_)
    exact J_c84 (F_X7_put τ a0 (w2 + (F_X1_field a0 (10 : Int32) (1 : Int32)).toInt64)).2 (F_X7_put τ a0 (w2 + (F_X1_field a0 (10 : Int32) (1 : Int32)).toInt64)).1 H locs ls hf hP hD hS (lv_sub hl [] rfl)
  have J_c54 : ∀ (τ : XS) (w2 : Int64) (H : Heap) (locs : List Loc) (ls : Array Slot), F_X7_choose_c54 τ a0 w2 = res → va_P z.1 vwCl (xW z r τ) H → va_D A (xW z r τ) → va_S A s.heap H locs → lv_has ls 4 [(0, .ref (r 9)), (1, .int a0), (2, .long w2)] → W p l e { frames := 3, cells := 0, slots := 0, locals := 69 } s m ([.ref (r 9), .int a0] : List Value).toArray below meth c H locs 0 0 Q (F0 m 54 ls []) := by
    intro τ w2 H locs ls hf hP hD hS hl
    unfold F_X7_choose_c54 at hf
    refine lv_iload_n hx hb dX7_choose_54 rfl (lv_at hl 1 rfl) ?_
    refine lv_bipush (v := 30) hx hb dX7_choose_55 (by decide) ?_
    refine k_X1_isOne (a0 := a0) (a1 := (30 : Int32)) S tl_X7_37 ⟨Nat.le_of_ble_eq_true rfl, Nat.le_of_ble_eq_true rfl⟩ hl.1 (Nat.le_of_ble_eq_true rfl) dX7_choose_57 ?_
    refine gz_eq (tgt := 69) hx hb dX7_choose_60 (by decide) (fun c_60 => ?_) (fun c_60 => ?_)
    · rw [if_neg c_60] at hf
      exact J_c69 τ w2 H locs ls hf hP hD hS (lv_sub hl [0, 1, 2] rfl)
    · rw [if_pos c_60] at hf
      refine lv_lload_n hx hb dX7_choose_63 rfl (lv_at hl 2 rfl) ?_
      refine lv_ldc2 (v := -1) hx hb hown (hts _ tk_X7_65) dX7_choose_64 ?_
      refine lv_lxor hx hb dX7_choose_67 ?_
      refine lv_lstore_n (lv' := [(2, .long (w2 ^^^ (-1 : Int64))), (0, .ref (r 9)), (1, .int a0)]) hx hb dX7_choose_68 rfl hl (by decide) rfl (fun ls hl => ?_)
      exact J_c69 τ (w2 ^^^ (-1 : Int64)) H locs ls hf hP hD hS (lv_sub hl [1, 2, 0] rfl)
  unfold F_X7_choose at hf
  refine lv_iload_n hx hb dX7_choose_0 rfl (lv_at hl 1 rfl) ?_
  refine lv_bipush (v := 29) hx hb dX7_choose_1 (by decide) ?_
  refine k_X1_isOne (a0 := a0) (a1 := (29 : Int32)) S tl_X7_37 ⟨Nat.le_of_ble_eq_true rfl, Nat.le_of_ble_eq_true rfl⟩ hl.1 (Nat.le_of_ble_eq_true rfl) dX7_choose_3 ?_
  refine gz_ne (tgt := 18) hx hb dX7_choose_6 (by decide) (fun c_6 => ?_) (fun c_6 => ?_)
  · rw [if_pos c_6] at hf
    refine lv_iconst (v := 0) hx hb dX7_choose_18 (by decide) ?_
    exact hend false σ H locs 19 ls hf hP hD hS dX7_choose_19
  · rw [if_neg c_6] at hf
    refine lv_iload_n hx hb dX7_choose_9 rfl (lv_at hl 1 rfl) ?_
    refine lv_bipush (v := 11) hx hb dX7_choose_10 (by decide) ?_
    refine k_X1_isOne (a0 := a0) (a1 := (11 : Int32)) S tl_X7_37 ⟨Nat.le_of_ble_eq_true rfl, Nat.le_of_ble_eq_true rfl⟩ hl.1 (Nat.le_of_ble_eq_true rfl) dX7_choose_12 ?_
    refine gz_eq (tgt := 20) hx hb dX7_choose_15 (by decide) (fun c_15 => ?_) (fun c_15 => ?_)
    · rw [if_neg c_15] at hf
      refine lv_aload_n hx hb dX7_choose_20 rfl (lv_at hl 0 rfl) ?_
      refine fg_X7_state S hK hP tf_X7_7 dX7_choose_21 ?_
      refine lv_iload_n hx hb dX7_choose_24 rfl (lv_at hl 1 rfl) ?_
      refine lv_bipush (v := 12) hx hb dX7_choose_25 (by decide) ?_
      refine lv_iconst (v := 4) hx hb dX7_choose_27 (by decide) ?_
      refine k_X1_field (a0 := a0) (a1 := (12 : Int32)) (a2 := (4 : Int32)) S tl_X7_17 ⟨Nat.le_of_ble_eq_true rfl, Nat.le_of_ble_eq_true rfl⟩ hl.1 (Nat.le_of_ble_eq_true rfl) dX7_choose_28 ?_
      refine k_X8_meets (a0 := (F_X1_field a0 (12 : Int32) (4 : Int32))) S hK hP tl_X7_71 ⟨Nat.le_of_ble_eq_true rfl, Nat.le_of_ble_eq_true rfl⟩ hl.1 (Nat.le_of_ble_eq_true rfl) dX7_choose_31 ?_
      refine gz_eq (tgt := 48) hx hb dX7_choose_34 (by decide) (fun c_34 => ?_) (fun c_34 => ?_)
      · rw [if_neg c_34] at hf
        refine lv_aload_n hx hb dX7_choose_48 rfl (lv_at hl 0 rfl) ?_
        refine lv_iload_n hx hb dX7_choose_49 rfl (lv_at hl 1 rfl) ?_
        refine k_X7_right (a0 := a0) S hK hP tl_X7_45 ⟨Nat.le_of_ble_eq_true rfl, Nat.le_of_ble_eq_true rfl⟩ hl.1 (Nat.le_of_ble_eq_true rfl) dX7_choose_50 ?_
        refine lv_lstore_n (lv' := [(2, .long (F_X7_right σ a0)), (0, .ref (r 9)), (1, .int a0)]) hx hb dX7_choose_53 rfl hl (by decide) rfl (fun ls hl => ?_)
        exact J_c54 σ (F_X7_right σ a0) H locs ls hf hP hD hS (lv_sub hl [1, 2, 0] rfl)
      · rw [if_pos c_34] at hf
        refine lv_aload_n hx hb dX7_choose_37 rfl (lv_at hl 0 rfl) ?_
        refine lv_iload_n hx hb dX7_choose_38 rfl (lv_at hl 1 rfl) ?_
        refine lv_aload_n hx hb dX7_choose_39 rfl (lv_at hl 0 rfl) ?_
        refine lv_iload_n hx hb dX7_choose_40 rfl (lv_at hl 1 rfl) ?_
        refine k_X7_left (a0 := a0) S hK hP tl_X7_52 ⟨Nat.le_of_ble_eq_true rfl, Nat.le_of_ble_eq_true rfl⟩ hl.1 (Nat.le_of_ble_eq_true rfl) dX7_choose_41 ?_
        refine k_X7_put (a0 := a0) (a1 := (F_X7_left σ a0)) S hK hA hP hD hS tl_X7_61 ⟨Nat.le_of_ble_eq_true rfl, Nat.le_of_ble_eq_true rfl⟩ hl.1 (Nat.le_of_ble_eq_true rfl) dX7_choose_44 (fun H locs hP hD hS => ?_)
        exact hend (F_X7_put σ a0 (F_X7_left σ a0)).1 (F_X7_put σ a0 (F_X7_left σ a0)).2 H locs 47 ls hf hP hD hS dX7_choose_47
    · rw [if_pos c_15] at hf
      refine lv_iconst (v := 0) hx hb dX7_choose_18 (by decide) ?_
      exact hend false σ H locs 19 ls hf hP hD hS dX7_choose_19
theorem k_X7_choose {p : Program} {l : Launch} {e : Env} {R : Room} {s : State} {m : MethodId} {args : Array Value} {below : List Frame} {meth : Method} {c : Code} {H : Heap} {locs : List Loc} {Q : State → Prop} {cc : ByteArray} {pc : Nat} {ls : Array Slot} {rest : List Value} {own : String} {index nL : Nat} {A : Nat → Prop} {z : Cx} {r : Nat → Nat} {σ : XS} {a0 : Int32} (S : CallFix p m c cc nL s args tbG own) (hK : va_K z.1 vwCl (cxT z) s) (hA : ∀ q, s.heap.size ≤ q → A q) (hP : va_P z.1 vwCl (xW z r σ) H) (hD : va_D A (xW z r σ)) (hS : va_S A s.heap H locs) (hl : Cond.methodLink own index yX7_choose ∈ tbG) (hR : 3 + 1 ≤ R.frames ∧ 8 + (4 + 11) + 69 ≤ R.locals) (hsz : ls.size = nL) (hcat : (rest.map fun v => v.category).sum ≤ 8) (hdg : decode cc pc = .ok (.invokevirtual index, 3)) (kk : ∀ (H : Heap) (locs : List Loc), va_P z.1 vwCl (xW z r (F_X7_choose σ a0).2) H → va_D A (xW z r (F_X7_choose σ a0).2) → va_S A s.heap H locs → W p l e R s m args below meth c H locs 0 0 Q (F0 m (pc + 3) ls (.int (zB (F_X7_choose σ a0).1) :: rest))) : W p l e R s m args below meth c H locs 0 0 Q (F0 m pc ls (.int a0 :: .ref (r 9) :: rest)) :=
  km (As := [.int a0]) (ov := some (.int (zB (F_X7_choose σ a0).1))) (w' := xW z r (F_X7_choose σ a0).2) (q0 := 9) (ci := 6) S hK hA hP hD hS (c_X7_choose l z r σ a0 H.size _ rfl) ⟨tb_cB 1 S.2.2.2.2 tc_X7_choose ti_X7 hl rfl rfl (by decide +kernel) hR, S.2.2.2.2 _ tm_X7_choose, S.2.2.2.2 _ te_X7_choose⟩ rfl rfl rfl rfl hsz rfl hcat hdg kk

theorem dJ13_reverseBytes_067f4_0 : decode cJ13_reverseBytes_067f4 0 = .ok (.lload_n 0, 1) := by decide +kernel
theorem dJ13_reverseBytes_067f4_1 : decode cJ13_reverseBytes_067f4 1 = .ok (.ldc2_w 327, 3) := by decide +kernel
theorem dJ13_reverseBytes_067f4_4 : decode cJ13_reverseBytes_067f4 4 = .ok (.land, 1) := by decide +kernel
theorem dJ13_reverseBytes_067f4_5 : decode cJ13_reverseBytes_067f4 5 = .ok (.bipush 8, 2) := by decide +kernel
theorem dJ13_reverseBytes_067f4_7 : decode cJ13_reverseBytes_067f4 7 = .ok (.lshl, 1) := by decide +kernel
theorem dJ13_reverseBytes_067f4_8 : decode cJ13_reverseBytes_067f4 8 = .ok (.lload_n 0, 1) := by decide +kernel
theorem dJ13_reverseBytes_067f4_9 : decode cJ13_reverseBytes_067f4 9 = .ok (.bipush 8, 2) := by decide +kernel
theorem dJ13_reverseBytes_067f4_11 : decode cJ13_reverseBytes_067f4 11 = .ok (.lushr, 1) := by decide +kernel
theorem dJ13_reverseBytes_067f4_12 : decode cJ13_reverseBytes_067f4 12 = .ok (.ldc2_w 327, 3) := by decide +kernel
theorem dJ13_reverseBytes_067f4_15 : decode cJ13_reverseBytes_067f4 15 = .ok (.land, 1) := by decide +kernel
theorem dJ13_reverseBytes_067f4_16 : decode cJ13_reverseBytes_067f4 16 = .ok (.lor, 1) := by decide +kernel
theorem dJ13_reverseBytes_067f4_17 : decode cJ13_reverseBytes_067f4 17 = .ok (.lstore_n 0, 1) := by decide +kernel
theorem dJ13_reverseBytes_067f4_18 : decode cJ13_reverseBytes_067f4 18 = .ok (.lload_n 0, 1) := by decide +kernel
theorem dJ13_reverseBytes_067f4_19 : decode cJ13_reverseBytes_067f4 19 = .ok (.bipush 48, 2) := by decide +kernel
theorem dJ13_reverseBytes_067f4_21 : decode cJ13_reverseBytes_067f4 21 = .ok (.lshl, 1) := by decide +kernel
theorem dJ13_reverseBytes_067f4_22 : decode cJ13_reverseBytes_067f4 22 = .ok (.lload_n 0, 1) := by decide +kernel
theorem dJ13_reverseBytes_067f4_23 : decode cJ13_reverseBytes_067f4 23 = .ok (.ldc2_w 329, 3) := by decide +kernel
theorem dJ13_reverseBytes_067f4_26 : decode cJ13_reverseBytes_067f4 26 = .ok (.land, 1) := by decide +kernel
theorem dJ13_reverseBytes_067f4_27 : decode cJ13_reverseBytes_067f4 27 = .ok (.bipush 16, 2) := by decide +kernel
theorem dJ13_reverseBytes_067f4_29 : decode cJ13_reverseBytes_067f4 29 = .ok (.lshl, 1) := by decide +kernel
theorem dJ13_reverseBytes_067f4_30 : decode cJ13_reverseBytes_067f4 30 = .ok (.lor, 1) := by decide +kernel
theorem dJ13_reverseBytes_067f4_31 : decode cJ13_reverseBytes_067f4 31 = .ok (.lload_n 0, 1) := by decide +kernel
theorem dJ13_reverseBytes_067f4_32 : decode cJ13_reverseBytes_067f4 32 = .ok (.bipush 16, 2) := by decide +kernel
theorem dJ13_reverseBytes_067f4_34 : decode cJ13_reverseBytes_067f4 34 = .ok (.lushr, 1) := by decide +kernel
theorem dJ13_reverseBytes_067f4_35 : decode cJ13_reverseBytes_067f4 35 = .ok (.ldc2_w 329, 3) := by decide +kernel
theorem dJ13_reverseBytes_067f4_38 : decode cJ13_reverseBytes_067f4 38 = .ok (.land, 1) := by decide +kernel
theorem dJ13_reverseBytes_067f4_39 : decode cJ13_reverseBytes_067f4 39 = .ok (.lor, 1) := by decide +kernel
theorem dJ13_reverseBytes_067f4_40 : decode cJ13_reverseBytes_067f4 40 = .ok (.lload_n 0, 1) := by decide +kernel
theorem dJ13_reverseBytes_067f4_41 : decode cJ13_reverseBytes_067f4 41 = .ok (.bipush 48, 2) := by decide +kernel
theorem dJ13_reverseBytes_067f4_43 : decode cJ13_reverseBytes_067f4 43 = .ok (.lushr, 1) := by decide +kernel
theorem dJ13_reverseBytes_067f4_44 : decode cJ13_reverseBytes_067f4 44 = .ok (.lor, 1) := by decide +kernel
theorem dJ13_reverseBytes_067f4_45 : decode cJ13_reverseBytes_067f4 45 = .ok (.lreturn, 1) := by decide +kernel
def F_J13_reverseBytes_067f4_c18 (w0 : Int64) : Int64 := ((((j_lshl w0 (48 : Int32)) ||| (j_lshl (w0 &&& (4294901760 : Int64)) (16 : Int32))) ||| ((j_lushr w0 (16 : Int32)) &&& (4294901760 : Int64))) ||| (j_lushr w0 (48 : Int32)))
def F_J13_reverseBytes_067f4 (a0 : Int64) : Int64 := (F_J13_reverseBytes_067f4_c18 ((j_lshl (a0 &&& (71777214294589695 : Int64)) (8 : Int32)) ||| ((j_lushr a0 (8 : Int32)) &&& (71777214294589695 : Int64))))
set_option maxHeartbeats 4000000 in
set_option maxRecDepth 100000 in
theorem c_J13_reverseBytes_067f4 (l : Launch) (a0 : Int64) (res : Int64) (hf : F_J13_reverseBytes_067f4 a0 = res) : Met l yJ13_reverseBytes_067f4 (wsC yJ13_reverseBytes_067f4 cJ13_reverseBytes_067f4 2 (some .long)) { frames := 0, cells := 0, slots := 0, locals := 0 } (fun v _ => v = ([.long a0] : List Value).toArray) (gS (some (.long res))) 0 0 (fun _ => False) := by
  refine mk_s_l (own := RJ13) (by decide) rfl _ (Nat.le_of_ble_eq_true rfl) (fun p e s m below meth c H locs Q ls S hl hend => ?_)
  have hx := S.1
  have hb := S.2.1
  have hown := S.2.2.2.1
  have hts := S.2.2.2.2
  have hl : lv_has ls 2 [(0, .long a0)] := hl
  have J_c18 : ∀ (w0 : Int64) (ls : Array Slot), F_J13_reverseBytes_067f4_c18 w0 = res → lv_has ls 2 [(0, .long w0)] → W p l e { frames := 0, cells := 0, slots := 0, locals := 0 } s m ([.long a0] : List Value).toArray below meth c H locs 0 0 Q (F0 m 18 ls []) := by
    intro w0 ls hf hl
    unfold F_J13_reverseBytes_067f4_c18 at hf
    refine lv_lload_n hx hb dJ13_reverseBytes_067f4_18 rfl (lv_at hl 0 rfl) ?_
    refine lv_bipush (v := 48) hx hb dJ13_reverseBytes_067f4_19 (by decide) ?_
    refine lv_lshl (v := (j_lshl w0 (48 : Int32))) hx hb dJ13_reverseBytes_067f4_21 rfl ?_
    refine lv_lload_n hx hb dJ13_reverseBytes_067f4_22 rfl (lv_at hl 0 rfl) ?_
    refine lv_ldc2 (v := 4294901760) hx hb hown (hts _ tk_J13_329) dJ13_reverseBytes_067f4_23 ?_
    refine lv_land hx hb dJ13_reverseBytes_067f4_26 ?_
    refine lv_bipush (v := 16) hx hb dJ13_reverseBytes_067f4_27 (by decide) ?_
    refine lv_lshl (v := (j_lshl (w0 &&& (4294901760 : Int64)) (16 : Int32))) hx hb dJ13_reverseBytes_067f4_29 rfl ?_
    refine lv_lor hx hb dJ13_reverseBytes_067f4_30 ?_
    refine lv_lload_n hx hb dJ13_reverseBytes_067f4_31 rfl (lv_at hl 0 rfl) ?_
    refine lv_bipush (v := 16) hx hb dJ13_reverseBytes_067f4_32 (by decide) ?_
    refine lv_lushr (v := (j_lushr w0 (16 : Int32))) hx hb dJ13_reverseBytes_067f4_34 rfl ?_
    refine lv_ldc2 (v := 4294901760) hx hb hown (hts _ tk_J13_329) dJ13_reverseBytes_067f4_35 ?_
    refine lv_land hx hb dJ13_reverseBytes_067f4_38 ?_
    refine lv_lor hx hb dJ13_reverseBytes_067f4_39 ?_
    refine lv_lload_n hx hb dJ13_reverseBytes_067f4_40 rfl (lv_at hl 0 rfl) ?_
    refine lv_bipush (v := 48) hx hb dJ13_reverseBytes_067f4_41 (by decide) ?_
    refine lv_lushr (v := (j_lushr w0 (48 : Int32))) hx hb dJ13_reverseBytes_067f4_43 rfl ?_
    refine lv_lor hx hb dJ13_reverseBytes_067f4_44 ?_
    exact hend ((((j_lshl w0 (48 : Int32)) ||| (j_lshl (w0 &&& (4294901760 : Int64)) (16 : Int32))) ||| ((j_lushr w0 (16 : Int32)) &&& (4294901760 : Int64))) ||| (j_lushr w0 (48 : Int32))) 45 ls hf dJ13_reverseBytes_067f4_45
  unfold F_J13_reverseBytes_067f4 at hf
  refine lv_lload_n hx hb dJ13_reverseBytes_067f4_0 rfl (lv_at hl 0 rfl) ?_
  refine lv_ldc2 (v := 71777214294589695) hx hb hown (hts _ tk_J13_327) dJ13_reverseBytes_067f4_1 ?_
  refine lv_land hx hb dJ13_reverseBytes_067f4_4 ?_
  refine lv_bipush (v := 8) hx hb dJ13_reverseBytes_067f4_5 (by decide) ?_
  refine lv_lshl (v := (j_lshl (a0 &&& (71777214294589695 : Int64)) (8 : Int32))) hx hb dJ13_reverseBytes_067f4_7 rfl ?_
  refine lv_lload_n hx hb dJ13_reverseBytes_067f4_8 rfl (lv_at hl 0 rfl) ?_
  refine lv_bipush (v := 8) hx hb dJ13_reverseBytes_067f4_9 (by decide) ?_
  refine lv_lushr (v := (j_lushr a0 (8 : Int32))) hx hb dJ13_reverseBytes_067f4_11 rfl ?_
  refine lv_ldc2 (v := 71777214294589695) hx hb hown (hts _ tk_J13_327) dJ13_reverseBytes_067f4_12 ?_
  refine lv_land hx hb dJ13_reverseBytes_067f4_15 ?_
  refine lv_lor hx hb dJ13_reverseBytes_067f4_16 ?_
  refine lv_lstore_n (lv' := [(0, .long ((j_lshl (a0 &&& (71777214294589695 : Int64)) (8 : Int32)) ||| ((j_lushr a0 (8 : Int32)) &&& (71777214294589695 : Int64))))]) hx hb dJ13_reverseBytes_067f4_17 rfl hl (by decide) rfl (fun ls hl => ?_)
  exact J_c18 ((j_lshl (a0 &&& (71777214294589695 : Int64)) (8 : Int32)) ||| ((j_lushr a0 (8 : Int32)) &&& (71777214294589695 : Int64))) ls hf (lv_sub hl [0] rfl)
theorem k_J13_reverseBytes_067f4 {p : Program} {l : Launch} {e : Env} {R : Room} {s : State} {m : MethodId} {args : Array Value} {below : List Frame} {meth : Method} {c : Code} {H : Heap} {locs : List Loc} {Q : State → Prop} {cc : ByteArray} {pc : Nat} {ls : Array Slot} {rest : List Value} {own : String} {index nL : Nat} {a0 : Int64} (S : CallFix p m c cc nL s args tbG own) (hl : Cond.methodLink own index yJ13_reverseBytes_067f4 ∈ tbG) (hR : 0 + 1 ≤ R.frames ∧ 8 + (2 + 11) + 0 ≤ R.locals) (hsz : ls.size = nL) (hcat : (rest.map fun v => v.category).sum ≤ 8) (hdg : decode cc pc = .ok (.invokestatic index, 3)) (kk : W p l e R s m args below meth c H locs 0 0 Q (F0 m (pc + 3) ls (.long (F_J13_reverseBytes_067f4 a0) :: rest))) : W p l e R s m args below meth c H locs 0 0 Q (F0 m pc ls (.long a0 :: rest)) :=
  ks (As := [.long a0]) (ov := some (.long (F_J13_reverseBytes_067f4 a0))) S (c_J13_reverseBytes_067f4 l a0 _ rfl) ⟨tb_cB 1 S.2.2.2.2 tc_J13_reverseBytes_067f4 ti_J13 hl rfl rfl (by decide +kernel) hR, S.2.2.2.2 _ ts_J13_reverseBytes_067f4⟩ rfl hsz rfl hcat hdg kk

theorem dJ13_reverse_067f4_0 : decode cJ13_reverse_067f4 0 = .ok (.lload_n 0, 1) := by decide +kernel
theorem dJ13_reverse_067f4_1 : decode cJ13_reverse_067f4 1 = .ok (.ldc2_w 314, 3) := by decide +kernel
theorem dJ13_reverse_067f4_4 : decode cJ13_reverse_067f4 4 = .ok (.land, 1) := by decide +kernel
theorem dJ13_reverse_067f4_5 : decode cJ13_reverse_067f4 5 = .ok (.iconst 1, 1) := by decide +kernel
theorem dJ13_reverse_067f4_6 : decode cJ13_reverse_067f4 6 = .ok (.lshl, 1) := by decide +kernel
theorem dJ13_reverse_067f4_7 : decode cJ13_reverse_067f4 7 = .ok (.lload_n 0, 1) := by decide +kernel
theorem dJ13_reverse_067f4_8 : decode cJ13_reverse_067f4 8 = .ok (.iconst 1, 1) := by decide +kernel
theorem dJ13_reverse_067f4_9 : decode cJ13_reverse_067f4 9 = .ok (.lushr, 1) := by decide +kernel
theorem dJ13_reverse_067f4_10 : decode cJ13_reverse_067f4 10 = .ok (.ldc2_w 314, 3) := by decide +kernel
theorem dJ13_reverse_067f4_13 : decode cJ13_reverse_067f4 13 = .ok (.land, 1) := by decide +kernel
theorem dJ13_reverse_067f4_14 : decode cJ13_reverse_067f4 14 = .ok (.lor, 1) := by decide +kernel
theorem dJ13_reverse_067f4_15 : decode cJ13_reverse_067f4 15 = .ok (.lstore_n 0, 1) := by decide +kernel
theorem dJ13_reverse_067f4_16 : decode cJ13_reverse_067f4 16 = .ok (.lload_n 0, 1) := by decide +kernel
theorem dJ13_reverse_067f4_17 : decode cJ13_reverse_067f4 17 = .ok (.ldc2_w 316, 3) := by decide +kernel
theorem dJ13_reverse_067f4_20 : decode cJ13_reverse_067f4 20 = .ok (.land, 1) := by decide +kernel
theorem dJ13_reverse_067f4_21 : decode cJ13_reverse_067f4 21 = .ok (.iconst 2, 1) := by decide +kernel
theorem dJ13_reverse_067f4_22 : decode cJ13_reverse_067f4 22 = .ok (.lshl, 1) := by decide +kernel
theorem dJ13_reverse_067f4_23 : decode cJ13_reverse_067f4 23 = .ok (.lload_n 0, 1) := by decide +kernel
theorem dJ13_reverse_067f4_24 : decode cJ13_reverse_067f4 24 = .ok (.iconst 2, 1) := by decide +kernel
theorem dJ13_reverse_067f4_25 : decode cJ13_reverse_067f4 25 = .ok (.lushr, 1) := by decide +kernel
theorem dJ13_reverse_067f4_26 : decode cJ13_reverse_067f4 26 = .ok (.ldc2_w 316, 3) := by decide +kernel
theorem dJ13_reverse_067f4_29 : decode cJ13_reverse_067f4 29 = .ok (.land, 1) := by decide +kernel
theorem dJ13_reverse_067f4_30 : decode cJ13_reverse_067f4 30 = .ok (.lor, 1) := by decide +kernel
theorem dJ13_reverse_067f4_31 : decode cJ13_reverse_067f4 31 = .ok (.lstore_n 0, 1) := by decide +kernel
theorem dJ13_reverse_067f4_32 : decode cJ13_reverse_067f4 32 = .ok (.lload_n 0, 1) := by decide +kernel
theorem dJ13_reverse_067f4_33 : decode cJ13_reverse_067f4 33 = .ok (.ldc2_w 318, 3) := by decide +kernel
theorem dJ13_reverse_067f4_36 : decode cJ13_reverse_067f4 36 = .ok (.land, 1) := by decide +kernel
theorem dJ13_reverse_067f4_37 : decode cJ13_reverse_067f4 37 = .ok (.iconst 4, 1) := by decide +kernel
theorem dJ13_reverse_067f4_38 : decode cJ13_reverse_067f4 38 = .ok (.lshl, 1) := by decide +kernel
theorem dJ13_reverse_067f4_39 : decode cJ13_reverse_067f4 39 = .ok (.lload_n 0, 1) := by decide +kernel
theorem dJ13_reverse_067f4_40 : decode cJ13_reverse_067f4 40 = .ok (.iconst 4, 1) := by decide +kernel
theorem dJ13_reverse_067f4_41 : decode cJ13_reverse_067f4 41 = .ok (.lushr, 1) := by decide +kernel
theorem dJ13_reverse_067f4_42 : decode cJ13_reverse_067f4 42 = .ok (.ldc2_w 318, 3) := by decide +kernel
theorem dJ13_reverse_067f4_45 : decode cJ13_reverse_067f4 45 = .ok (.land, 1) := by decide +kernel
theorem dJ13_reverse_067f4_46 : decode cJ13_reverse_067f4 46 = .ok (.lor, 1) := by decide +kernel
theorem dJ13_reverse_067f4_47 : decode cJ13_reverse_067f4 47 = .ok (.lstore_n 0, 1) := by decide +kernel
theorem dJ13_reverse_067f4_48 : decode cJ13_reverse_067f4 48 = .ok (.lload_n 0, 1) := by decide +kernel
theorem dJ13_reverse_067f4_49 : decode cJ13_reverse_067f4 49 = .ok (.invokestatic 320, 3) := by decide +kernel
theorem dJ13_reverse_067f4_52 : decode cJ13_reverse_067f4 52 = .ok (.lreturn, 1) := by decide +kernel
def F_J13_reverse_067f4_c32 (w0 : Int64) : Int64 := (F_J13_reverseBytes_067f4 ((j_lshl (w0 &&& (1085102592571150095 : Int64)) (4 : Int32)) ||| ((j_lushr w0 (4 : Int32)) &&& (1085102592571150095 : Int64))))
def F_J13_reverse_067f4_c16 (w0 : Int64) : Int64 := (F_J13_reverse_067f4_c32 ((j_lshl (w0 &&& (3689348814741910323 : Int64)) (2 : Int32)) ||| ((j_lushr w0 (2 : Int32)) &&& (3689348814741910323 : Int64))))
def F_J13_reverse_067f4 (a0 : Int64) : Int64 := (F_J13_reverse_067f4_c16 ((j_lshl (a0 &&& (6148914691236517205 : Int64)) (1 : Int32)) ||| ((j_lushr a0 (1 : Int32)) &&& (6148914691236517205 : Int64))))
set_option maxHeartbeats 4000000 in
set_option maxRecDepth 100000 in
theorem c_J13_reverse_067f4 (l : Launch) (a0 : Int64) (res : Int64) (hf : F_J13_reverse_067f4 a0 = res) : Met l yJ13_reverse_067f4 (wsC yJ13_reverse_067f4 cJ13_reverse_067f4 2 (some .long)) { frames := 1, cells := 0, slots := 0, locals := 21 } (fun v _ => v = ([.long a0] : List Value).toArray) (gS (some (.long res))) 0 0 (fun _ => False) := by
  refine mk_s_l (own := RJ13) (by decide) rfl _ (Nat.le_of_ble_eq_true rfl) (fun p e s m below meth c H locs Q ls S hl hend => ?_)
  have hx := S.1
  have hb := S.2.1
  have hown := S.2.2.2.1
  have hts := S.2.2.2.2
  have hl : lv_has ls 2 [(0, .long a0)] := hl
  have J_c32 : ∀ (w0 : Int64) (ls : Array Slot), F_J13_reverse_067f4_c32 w0 = res → lv_has ls 2 [(0, .long w0)] → W p l e { frames := 1, cells := 0, slots := 0, locals := 21 } s m ([.long a0] : List Value).toArray below meth c H locs 0 0 Q (F0 m 32 ls []) := by
    intro w0 ls hf hl
    unfold F_J13_reverse_067f4_c32 at hf
    refine lv_lload_n hx hb dJ13_reverse_067f4_32 rfl (lv_at hl 0 rfl) ?_
    refine lv_ldc2 (v := 1085102592571150095) hx hb hown (hts _ tk_J13_318) dJ13_reverse_067f4_33 ?_
    refine lv_land hx hb dJ13_reverse_067f4_36 ?_
    refine lv_iconst (v := 4) hx hb dJ13_reverse_067f4_37 (by decide) ?_
    refine lv_lshl (v := (j_lshl (w0 &&& (1085102592571150095 : Int64)) (4 : Int32))) hx hb dJ13_reverse_067f4_38 rfl ?_
    refine lv_lload_n hx hb dJ13_reverse_067f4_39 rfl (lv_at hl 0 rfl) ?_
    refine lv_iconst (v := 4) hx hb dJ13_reverse_067f4_40 (by decide) ?_
    refine lv_lushr (v := (j_lushr w0 (4 : Int32))) hx hb dJ13_reverse_067f4_41 rfl ?_
    refine lv_ldc2 (v := 1085102592571150095) hx hb hown (hts _ tk_J13_318) dJ13_reverse_067f4_42 ?_
    refine lv_land hx hb dJ13_reverse_067f4_45 ?_
    refine lv_lor hx hb dJ13_reverse_067f4_46 ?_
    refine lv_lstore_n (lv' := [(0, .long ((j_lshl (w0 &&& (1085102592571150095 : Int64)) (4 : Int32)) ||| ((j_lushr w0 (4 : Int32)) &&& (1085102592571150095 : Int64))))]) hx hb dJ13_reverse_067f4_47 rfl hl (by decide) rfl (fun ls hl => ?_)
    refine lv_lload_n hx hb dJ13_reverse_067f4_48 rfl (lv_at hl 0 rfl) ?_
    refine k_J13_reverseBytes_067f4 (a0 := ((j_lshl (w0 &&& (1085102592571150095 : Int64)) (4 : Int32)) ||| ((j_lushr w0 (4 : Int32)) &&& (1085102592571150095 : Int64)))) S tl_J13_320 ⟨Nat.le_of_ble_eq_true rfl, Nat.le_of_ble_eq_true rfl⟩ hl.1 (Nat.le_of_ble_eq_true rfl) dJ13_reverse_067f4_49 ?_
    exact hend (F_J13_reverseBytes_067f4 ((j_lshl (w0 &&& (1085102592571150095 : Int64)) (4 : Int32)) ||| ((j_lushr w0 (4 : Int32)) &&& (1085102592571150095 : Int64)))) 52 ls hf dJ13_reverse_067f4_52
  have J_c16 : ∀ (w0 : Int64) (ls : Array Slot), F_J13_reverse_067f4_c16 w0 = res → lv_has ls 2 [(0, .long w0)] → W p l e { frames := 1, cells := 0, slots := 0, locals := 21 } s m ([.long a0] : List Value).toArray below meth c H locs 0 0 Q (F0 m 16 ls []) := by
    intro w0 ls hf hl
    unfold F_J13_reverse_067f4_c16 at hf
    refine lv_lload_n hx hb dJ13_reverse_067f4_16 rfl (lv_at hl 0 rfl) ?_
    refine lv_ldc2 (v := 3689348814741910323) hx hb hown (hts _ tk_J13_316) dJ13_reverse_067f4_17 ?_
    refine lv_land hx hb dJ13_reverse_067f4_20 ?_
    refine lv_iconst (v := 2) hx hb dJ13_reverse_067f4_21 (by decide) ?_
    refine lv_lshl (v := (j_lshl (w0 &&& (3689348814741910323 : Int64)) (2 : Int32))) hx hb dJ13_reverse_067f4_22 rfl ?_
    refine lv_lload_n hx hb dJ13_reverse_067f4_23 rfl (lv_at hl 0 rfl) ?_
    refine lv_iconst (v := 2) hx hb dJ13_reverse_067f4_24 (by decide) ?_
    refine lv_lushr (v := (j_lushr w0 (2 : Int32))) hx hb dJ13_reverse_067f4_25 rfl ?_
    refine lv_ldc2 (v := 3689348814741910323) hx hb hown (hts _ tk_J13_316) dJ13_reverse_067f4_26 ?_
    refine lv_land hx hb dJ13_reverse_067f4_29 ?_
    refine lv_lor hx hb dJ13_reverse_067f4_30 ?_
    refine lv_lstore_n (lv' := [(0, .long ((j_lshl (w0 &&& (3689348814741910323 : Int64)) (2 : Int32)) ||| ((j_lushr w0 (2 : Int32)) &&& (3689348814741910323 : Int64))))]) hx hb dJ13_reverse_067f4_31 rfl hl (by decide) rfl (fun ls hl => ?_)
    exact J_c32 ((j_lshl (w0 &&& (3689348814741910323 : Int64)) (2 : Int32)) ||| ((j_lushr w0 (2 : Int32)) &&& (3689348814741910323 : Int64))) ls hf (lv_sub hl [0] rfl)
  unfold F_J13_reverse_067f4 at hf
  refine lv_lload_n hx hb dJ13_reverse_067f4_0 rfl (lv_at hl 0 rfl) ?_
  refine lv_ldc2 (v := 6148914691236517205) hx hb hown (hts _ tk_J13_314) dJ13_reverse_067f4_1 ?_
  refine lv_land hx hb dJ13_reverse_067f4_4 ?_
  refine lv_iconst (v := 1) hx hb dJ13_reverse_067f4_5 (by decide) ?_
  refine lv_lshl (v := (j_lshl (a0 &&& (6148914691236517205 : Int64)) (1 : Int32))) hx hb dJ13_reverse_067f4_6 rfl ?_
  refine lv_lload_n hx hb dJ13_reverse_067f4_7 rfl (lv_at hl 0 rfl) ?_
  refine lv_iconst (v := 1) hx hb dJ13_reverse_067f4_8 (by decide) ?_
  refine lv_lushr (v := (j_lushr a0 (1 : Int32))) hx hb dJ13_reverse_067f4_9 rfl ?_
  refine lv_ldc2 (v := 6148914691236517205) hx hb hown (hts _ tk_J13_314) dJ13_reverse_067f4_10 ?_
  refine lv_land hx hb dJ13_reverse_067f4_13 ?_
  refine lv_lor hx hb dJ13_reverse_067f4_14 ?_
  refine lv_lstore_n (lv' := [(0, .long ((j_lshl (a0 &&& (6148914691236517205 : Int64)) (1 : Int32)) ||| ((j_lushr a0 (1 : Int32)) &&& (6148914691236517205 : Int64))))]) hx hb dJ13_reverse_067f4_15 rfl hl (by decide) rfl (fun ls hl => ?_)
  exact J_c16 ((j_lshl (a0 &&& (6148914691236517205 : Int64)) (1 : Int32)) ||| ((j_lushr a0 (1 : Int32)) &&& (6148914691236517205 : Int64))) ls hf (lv_sub hl [0] rfl)
theorem k_J13_reverse_067f4 {p : Program} {l : Launch} {e : Env} {R : Room} {s : State} {m : MethodId} {args : Array Value} {below : List Frame} {meth : Method} {c : Code} {H : Heap} {locs : List Loc} {Q : State → Prop} {cc : ByteArray} {pc : Nat} {ls : Array Slot} {rest : List Value} {own : String} {index nL : Nat} {a0 : Int64} (S : CallFix p m c cc nL s args tbG own) (hl : Cond.methodLink own index yJ13_reverse_067f4 ∈ tbG) (hR : 1 + 1 ≤ R.frames ∧ 8 + (2 + 11) + 21 ≤ R.locals) (hsz : ls.size = nL) (hcat : (rest.map fun v => v.category).sum ≤ 8) (hdg : decode cc pc = .ok (.invokestatic index, 3)) (kk : W p l e R s m args below meth c H locs 0 0 Q (F0 m (pc + 3) ls (.long (F_J13_reverse_067f4 a0) :: rest))) : W p l e R s m args below meth c H locs 0 0 Q (F0 m pc ls (.long a0 :: rest)) :=
  ks (As := [.long a0]) (ov := some (.long (F_J13_reverse_067f4 a0))) S (c_J13_reverse_067f4 l a0 _ rfl) ⟨tb_cB 1 S.2.2.2.2 tc_J13_reverse_067f4 ti_J13 hl rfl rfl (by decide +kernel) hR, S.2.2.2.2 _ ts_J13_reverse_067f4⟩ rfl hsz rfl hcat hdg kk

theorem dX7_bytesOfPairs_0 : decode cX7_bytesOfPairs 0 = .ok (.lload_n 0, 1) := by decide +kernel
theorem dX7_bytesOfPairs_1 : decode cX7_bytesOfPairs 1 = .ok (.ldc2_w 116, 3) := by decide +kernel
theorem dX7_bytesOfPairs_4 : decode cX7_bytesOfPairs 4 = .ok (.land, 1) := by decide +kernel
theorem dX7_bytesOfPairs_5 : decode cX7_bytesOfPairs 5 = .ok (.bipush 8, 2) := by decide +kernel
theorem dX7_bytesOfPairs_7 : decode cX7_bytesOfPairs 7 = .ok (.lshl, 1) := by decide +kernel
theorem dX7_bytesOfPairs_8 : decode cX7_bytesOfPairs 8 = .ok (.lload_n 0, 1) := by decide +kernel
theorem dX7_bytesOfPairs_9 : decode cX7_bytesOfPairs 9 = .ok (.bipush 8, 2) := by decide +kernel
theorem dX7_bytesOfPairs_11 : decode cX7_bytesOfPairs 11 = .ok (.lushr, 1) := by decide +kernel
theorem dX7_bytesOfPairs_12 : decode cX7_bytesOfPairs 12 = .ok (.ldc2_w 116, 3) := by decide +kernel
theorem dX7_bytesOfPairs_15 : decode cX7_bytesOfPairs 15 = .ok (.land, 1) := by decide +kernel
theorem dX7_bytesOfPairs_16 : decode cX7_bytesOfPairs 16 = .ok (.lor, 1) := by decide +kernel
theorem dX7_bytesOfPairs_17 : decode cX7_bytesOfPairs 17 = .ok (.lreturn, 1) := by decide +kernel
def F_X7_bytesOfPairs (a0 : Int64) : Int64 := ((j_lshl (a0 &&& (71777214294589695 : Int64)) (8 : Int32)) ||| ((j_lushr a0 (8 : Int32)) &&& (71777214294589695 : Int64)))
set_option maxHeartbeats 4000000 in
set_option maxRecDepth 100000 in
theorem c_X7_bytesOfPairs (l : Launch) (a0 : Int64) (res : Int64) (hf : F_X7_bytesOfPairs a0 = res) : Met l yX7_bytesOfPairs (wsC yX7_bytesOfPairs cX7_bytesOfPairs 2 (some .long)) { frames := 0, cells := 0, slots := 0, locals := 0 } (fun v _ => v = ([.long a0] : List Value).toArray) (gS (some (.long res))) 0 0 (fun _ => False) := by
  refine mk_s_l (own := RX7) (by decide) rfl _ (Nat.le_of_ble_eq_true rfl) (fun p e s m below meth c H locs Q ls S hl hend => ?_)
  have hx := S.1
  have hb := S.2.1
  have hown := S.2.2.2.1
  have hts := S.2.2.2.2
  have hl : lv_has ls 2 [(0, .long a0)] := hl
  unfold F_X7_bytesOfPairs at hf
  refine lv_lload_n hx hb dX7_bytesOfPairs_0 rfl (lv_at hl 0 rfl) ?_
  refine lv_ldc2 (v := 71777214294589695) hx hb hown (hts _ tk_X7_116) dX7_bytesOfPairs_1 ?_
  refine lv_land hx hb dX7_bytesOfPairs_4 ?_
  refine lv_bipush (v := 8) hx hb dX7_bytesOfPairs_5 (by decide) ?_
  refine lv_lshl (v := (j_lshl (a0 &&& (71777214294589695 : Int64)) (8 : Int32))) hx hb dX7_bytesOfPairs_7 rfl ?_
  refine lv_lload_n hx hb dX7_bytesOfPairs_8 rfl (lv_at hl 0 rfl) ?_
  refine lv_bipush (v := 8) hx hb dX7_bytesOfPairs_9 (by decide) ?_
  refine lv_lushr (v := (j_lushr a0 (8 : Int32))) hx hb dX7_bytesOfPairs_11 rfl ?_
  refine lv_ldc2 (v := 71777214294589695) hx hb hown (hts _ tk_X7_116) dX7_bytesOfPairs_12 ?_
  refine lv_land hx hb dX7_bytesOfPairs_15 ?_
  refine lv_lor hx hb dX7_bytesOfPairs_16 ?_
  exact hend ((j_lshl (a0 &&& (71777214294589695 : Int64)) (8 : Int32)) ||| ((j_lushr a0 (8 : Int32)) &&& (71777214294589695 : Int64))) 17 ls hf dX7_bytesOfPairs_17
theorem k_X7_bytesOfPairs {p : Program} {l : Launch} {e : Env} {R : Room} {s : State} {m : MethodId} {args : Array Value} {below : List Frame} {meth : Method} {c : Code} {H : Heap} {locs : List Loc} {Q : State → Prop} {cc : ByteArray} {pc : Nat} {ls : Array Slot} {rest : List Value} {own : String} {index nL : Nat} {a0 : Int64} (S : CallFix p m c cc nL s args tbG own) (hl : Cond.methodLink own index yX7_bytesOfPairs ∈ tbG) (hR : 0 + 1 ≤ R.frames ∧ 8 + (2 + 11) + 0 ≤ R.locals) (hsz : ls.size = nL) (hcat : (rest.map fun v => v.category).sum ≤ 8) (hdg : decode cc pc = .ok (.invokestatic index, 3)) (kk : W p l e R s m args below meth c H locs 0 0 Q (F0 m (pc + 3) ls (.long (F_X7_bytesOfPairs a0) :: rest))) : W p l e R s m args below meth c H locs 0 0 Q (F0 m pc ls (.long a0 :: rest)) :=
  ks (As := [.long a0]) (ov := some (.long (F_X7_bytesOfPairs a0))) S (c_X7_bytesOfPairs l a0 _ rfl) ⟨tb_cB 1 S.2.2.2.2 tc_X7_bytesOfPairs ti_X7 hl rfl rfl (by decide +kernel) hR, S.2.2.2.2 _ ts_X7_bytesOfPairs⟩ rfl hsz rfl hcat hdg kk

theorem dX7_bytesOfFours_0 : decode cX7_bytesOfFours 0 = .ok (.lload_n 0, 1) := by decide +kernel
theorem dX7_bytesOfFours_1 : decode cX7_bytesOfFours 1 = .ok (.invokestatic 101, 3) := by decide +kernel
theorem dX7_bytesOfFours_4 : decode cX7_bytesOfFours 4 = .ok (.lstore_n 2, 1) := by decide +kernel
theorem dX7_bytesOfFours_5 : decode cX7_bytesOfFours 5 = .ok (.lload_n 2, 1) := by decide +kernel
theorem dX7_bytesOfFours_6 : decode cX7_bytesOfFours 6 = .ok (.ldc2_w 118, 3) := by decide +kernel
theorem dX7_bytesOfFours_9 : decode cX7_bytesOfFours 9 = .ok (.land, 1) := by decide +kernel
theorem dX7_bytesOfFours_10 : decode cX7_bytesOfFours 10 = .ok (.bipush 16, 2) := by decide +kernel
theorem dX7_bytesOfFours_12 : decode cX7_bytesOfFours 12 = .ok (.lshl, 1) := by decide +kernel
theorem dX7_bytesOfFours_13 : decode cX7_bytesOfFours 13 = .ok (.lload_n 2, 1) := by decide +kernel
theorem dX7_bytesOfFours_14 : decode cX7_bytesOfFours 14 = .ok (.bipush 16, 2) := by decide +kernel
theorem dX7_bytesOfFours_16 : decode cX7_bytesOfFours 16 = .ok (.lushr, 1) := by decide +kernel
theorem dX7_bytesOfFours_17 : decode cX7_bytesOfFours 17 = .ok (.ldc2_w 118, 3) := by decide +kernel
theorem dX7_bytesOfFours_20 : decode cX7_bytesOfFours 20 = .ok (.land, 1) := by decide +kernel
theorem dX7_bytesOfFours_21 : decode cX7_bytesOfFours 21 = .ok (.lor, 1) := by decide +kernel
theorem dX7_bytesOfFours_22 : decode cX7_bytesOfFours 22 = .ok (.lreturn, 1) := by decide +kernel
def F_X7_bytesOfFours_c5 (a0 : Int64) (w2 : Int64) : Int64 := ((j_lshl (w2 &&& (281470681808895 : Int64)) (16 : Int32)) ||| ((j_lushr w2 (16 : Int32)) &&& (281470681808895 : Int64)))
def F_X7_bytesOfFours (a0 : Int64) : Int64 := (F_X7_bytesOfFours_c5 a0 (F_X7_bytesOfPairs a0))
set_option maxHeartbeats 4000000 in
set_option maxRecDepth 100000 in
theorem c_X7_bytesOfFours (l : Launch) (a0 : Int64) (res : Int64) (hf : F_X7_bytesOfFours a0 = res) : Met l yX7_bytesOfFours (wsC yX7_bytesOfFours cX7_bytesOfFours 4 (some .long)) { frames := 1, cells := 0, slots := 0, locals := 21 } (fun v _ => v = ([.long a0] : List Value).toArray) (gS (some (.long res))) 0 0 (fun _ => False) := by
  refine mk_s_l (own := RX7) (by decide) rfl _ (Nat.le_of_ble_eq_true rfl) (fun p e s m below meth c H locs Q ls S hl hend => ?_)
  have hx := S.1
  have hb := S.2.1
  have hown := S.2.2.2.1
  have hts := S.2.2.2.2
  have hl : lv_has ls 4 [(0, .long a0)] := hl
  have J_c5 : ∀ (w2 : Int64) (ls : Array Slot), F_X7_bytesOfFours_c5 a0 w2 = res → lv_has ls 4 [(2, .long w2)] → W p l e { frames := 1, cells := 0, slots := 0, locals := 21 } s m ([.long a0] : List Value).toArray below meth c H locs 0 0 Q (F0 m 5 ls []) := by
    intro w2 ls hf hl
    unfold F_X7_bytesOfFours_c5 at hf
    refine lv_lload_n hx hb dX7_bytesOfFours_5 rfl (lv_at hl 0 rfl) ?_
    refine lv_ldc2 (v := 281470681808895) hx hb hown (hts _ tk_X7_118) dX7_bytesOfFours_6 ?_
    refine lv_land hx hb dX7_bytesOfFours_9 ?_
    refine lv_bipush (v := 16) hx hb dX7_bytesOfFours_10 (by decide) ?_
    refine lv_lshl (v := (j_lshl (w2 &&& (281470681808895 : Int64)) (16 : Int32))) hx hb dX7_bytesOfFours_12 rfl ?_
    refine lv_lload_n hx hb dX7_bytesOfFours_13 rfl (lv_at hl 0 rfl) ?_
    refine lv_bipush (v := 16) hx hb dX7_bytesOfFours_14 (by decide) ?_
    refine lv_lushr (v := (j_lushr w2 (16 : Int32))) hx hb dX7_bytesOfFours_16 rfl ?_
    refine lv_ldc2 (v := 281470681808895) hx hb hown (hts _ tk_X7_118) dX7_bytesOfFours_17 ?_
    refine lv_land hx hb dX7_bytesOfFours_20 ?_
    refine lv_lor hx hb dX7_bytesOfFours_21 ?_
    exact hend ((j_lshl (w2 &&& (281470681808895 : Int64)) (16 : Int32)) ||| ((j_lushr w2 (16 : Int32)) &&& (281470681808895 : Int64))) 22 ls hf dX7_bytesOfFours_22
  unfold F_X7_bytesOfFours at hf
  refine lv_lload_n hx hb dX7_bytesOfFours_0 rfl (lv_at hl 0 rfl) ?_
  refine k_X7_bytesOfPairs (a0 := a0) S tl_X7_101 ⟨Nat.le_of_ble_eq_true rfl, Nat.le_of_ble_eq_true rfl⟩ hl.1 (Nat.le_of_ble_eq_true rfl) dX7_bytesOfFours_1 ?_
  refine lv_lstore_n (lv' := [(2, .long (F_X7_bytesOfPairs a0)), (0, .long a0)]) hx hb dX7_bytesOfFours_4 rfl hl (by decide) rfl (fun ls hl => ?_)
  exact J_c5 (F_X7_bytesOfPairs a0) ls hf (lv_sub hl [0] rfl)
theorem k_X7_bytesOfFours {p : Program} {l : Launch} {e : Env} {R : Room} {s : State} {m : MethodId} {args : Array Value} {below : List Frame} {meth : Method} {c : Code} {H : Heap} {locs : List Loc} {Q : State → Prop} {cc : ByteArray} {pc : Nat} {ls : Array Slot} {rest : List Value} {own : String} {index nL : Nat} {a0 : Int64} (S : CallFix p m c cc nL s args tbG own) (hl : Cond.methodLink own index yX7_bytesOfFours ∈ tbG) (hR : 1 + 1 ≤ R.frames ∧ 8 + (4 + 11) + 21 ≤ R.locals) (hsz : ls.size = nL) (hcat : (rest.map fun v => v.category).sum ≤ 8) (hdg : decode cc pc = .ok (.invokestatic index, 3)) (kk : W p l e R s m args below meth c H locs 0 0 Q (F0 m (pc + 3) ls (.long (F_X7_bytesOfFours a0) :: rest))) : W p l e R s m args below meth c H locs 0 0 Q (F0 m pc ls (.long a0 :: rest)) :=
  ks (As := [.long a0]) (ov := some (.long (F_X7_bytesOfFours a0))) S (c_X7_bytesOfFours l a0 _ rfl) ⟨tb_cB 1 S.2.2.2.2 tc_X7_bytesOfFours ti_X7 hl rfl rfl (by decide +kernel) hR, S.2.2.2.2 _ ts_X7_bytesOfFours⟩ rfl hsz rfl hcat hdg kk

theorem dJ13_numberOfLeadingZeros_95d88_0 : decode cJ13_numberOfLeadingZeros_95d88 0 = .ok (.lload_n 0, 1) := by decide +kernel
theorem dJ13_numberOfLeadingZeros_95d88_1 : decode cJ13_numberOfLeadingZeros_95d88 1 = .ok (.bipush 32, 2) := by decide +kernel
theorem dJ13_numberOfLeadingZeros_95d88_3 : decode cJ13_numberOfLeadingZeros_95d88 3 = .ok (.lushr, 1) := by decide +kernel
theorem dJ13_numberOfLeadingZeros_95d88_4 : decode cJ13_numberOfLeadingZeros_95d88 4 = .ok (.l2i, 1) := by decide +kernel
theorem dJ13_numberOfLeadingZeros_95d88_5 : decode cJ13_numberOfLeadingZeros_95d88 5 = .ok (.istore_n 2, 1) := by decide +kernel
theorem dJ13_numberOfLeadingZeros_95d88_6 : decode cJ13_numberOfLeadingZeros_95d88 6 = .ok (.iload_n 2, 1) := by decide +kernel
theorem dJ13_numberOfLeadingZeros_95d88_7 : decode cJ13_numberOfLeadingZeros_95d88 7 = .ok (.ifCond .ne 14, 3) := by decide +kernel
theorem dJ13_numberOfLeadingZeros_95d88_10 : decode cJ13_numberOfLeadingZeros_95d88 10 = .ok (.bipush 32, 2) := by decide +kernel
theorem dJ13_numberOfLeadingZeros_95d88_12 : decode cJ13_numberOfLeadingZeros_95d88 12 = .ok (.lload_n 0, 1) := by decide +kernel
theorem dJ13_numberOfLeadingZeros_95d88_13 : decode cJ13_numberOfLeadingZeros_95d88 13 = .ok (.l2i, 1) := by decide +kernel
theorem dJ13_numberOfLeadingZeros_95d88_14 : decode cJ13_numberOfLeadingZeros_95d88 14 = .ok (.invokestatic 308, 3) := by decide +kernel
theorem dJ13_numberOfLeadingZeros_95d88_17 : decode cJ13_numberOfLeadingZeros_95d88 17 = .ok (.iadd, 1) := by decide +kernel
theorem dJ13_numberOfLeadingZeros_95d88_18 : decode cJ13_numberOfLeadingZeros_95d88 18 = .ok (.goto 7, 3) := by decide +kernel
theorem dJ13_numberOfLeadingZeros_95d88_21 : decode cJ13_numberOfLeadingZeros_95d88 21 = .ok (.iload_n 2, 1) := by decide +kernel
theorem dJ13_numberOfLeadingZeros_95d88_22 : decode cJ13_numberOfLeadingZeros_95d88 22 = .ok (.invokestatic 308, 3) := by decide +kernel
theorem dJ13_numberOfLeadingZeros_95d88_25 : decode cJ13_numberOfLeadingZeros_95d88 25 = .ok (.ireturn, 1) := by decide +kernel
def F_J13_numberOfLeadingZeros_95d88_c6 (a0 : Int64) (w2 : Int32) : Int32 := (if w2 = 0 then ((32 : Int32) + (F_J6_numberOfLeadingZeros_0f7a4 a0.toInt32)) else (F_J6_numberOfLeadingZeros_0f7a4 w2))
def F_J13_numberOfLeadingZeros_95d88 (a0 : Int64) : Int32 := (F_J13_numberOfLeadingZeros_95d88_c6 a0 (j_lushr a0 (32 : Int32)).toInt32)
set_option maxHeartbeats 4000000 in
set_option maxRecDepth 100000 in
theorem c_J13_numberOfLeadingZeros_95d88 (l : Launch) (a0 : Int64) (res : Int32) (hf : F_J13_numberOfLeadingZeros_95d88 a0 = res) : Met l yJ13_numberOfLeadingZeros_95d88 (wsC yJ13_numberOfLeadingZeros_95d88 cJ13_numberOfLeadingZeros_95d88 3 (some .int)) { frames := 1, cells := 0, slots := 0, locals := 21 } (fun v _ => v = ([.long a0] : List Value).toArray) (gS (some (.int res))) 0 0 (fun _ => False) := by
  refine mk_s_i (own := RJ13) (by decide) rfl _ (Nat.le_of_ble_eq_true rfl) (fun p e s m below meth c H locs Q ls S hl hend => ?_)
  have hx := S.1
  have hb := S.2.1
  have hown := S.2.2.2.1
  have hts := S.2.2.2.2
  have hl : lv_has ls 3 [(0, .long a0)] := hl
  have J_c6 : ∀ (w2 : Int32) (ls : Array Slot), F_J13_numberOfLeadingZeros_95d88_c6 a0 w2 = res → lv_has ls 3 [(0, .long a0), (2, .int w2)] → W p l e { frames := 1, cells := 0, slots := 0, locals := 21 } s m ([.long a0] : List Value).toArray below meth c H locs 0 0 Q (F0 m 6 ls []) := by
    intro w2 ls hf hl
    unfold F_J13_numberOfLeadingZeros_95d88_c6 at hf
    refine lv_iload_n hx hb dJ13_numberOfLeadingZeros_95d88_6 rfl (lv_at hl 1 rfl) ?_
    refine lv_if_ne (tgt := 21) hx hb dJ13_numberOfLeadingZeros_95d88_7 (by decide) (fun c_7 => ?_) (fun c_7 => ?_)
    · rw [if_neg c_7] at hf
      refine lv_iload_n hx hb dJ13_numberOfLeadingZeros_95d88_21 rfl (lv_at hl 1 rfl) ?_
      refine k_J6_numberOfLeadingZeros_0f7a4 (a0 := w2) S tl_J13_308 ⟨Nat.le_of_ble_eq_true rfl, Nat.le_of_ble_eq_true rfl⟩ hl.1 (Nat.le_of_ble_eq_true rfl) dJ13_numberOfLeadingZeros_95d88_22 ?_
      exact hend (F_J6_numberOfLeadingZeros_0f7a4 w2) 25 ls hf dJ13_numberOfLeadingZeros_95d88_25
    · rw [if_pos c_7] at hf
      refine lv_bipush (v := 32) hx hb dJ13_numberOfLeadingZeros_95d88_10 (by decide) ?_
      refine lv_lload_n hx hb dJ13_numberOfLeadingZeros_95d88_12 rfl (lv_at hl 0 rfl) ?_
      refine lv_l2i hx hb dJ13_numberOfLeadingZeros_95d88_13 rfl ?_
      refine k_J6_numberOfLeadingZeros_0f7a4 (a0 := a0.toInt32) S tl_J13_308 ⟨Nat.le_of_ble_eq_true rfl, Nat.le_of_ble_eq_true rfl⟩ hl.1 (Nat.le_of_ble_eq_true rfl) dJ13_numberOfLeadingZeros_95d88_14 ?_
      refine lv_iadd hx hb dJ13_numberOfLeadingZeros_95d88_17 ?_
      refine lv_goto (tgt := 25) hx hb dJ13_numberOfLeadingZeros_95d88_18 (by decide) ?_
      exact hend ((32 : Int32) + (F_J6_numberOfLeadingZeros_0f7a4 a0.toInt32)) 25 ls hf dJ13_numberOfLeadingZeros_95d88_25
  unfold F_J13_numberOfLeadingZeros_95d88 at hf
  refine lv_lload_n hx hb dJ13_numberOfLeadingZeros_95d88_0 rfl (lv_at hl 0 rfl) ?_
  refine lv_bipush (v := 32) hx hb dJ13_numberOfLeadingZeros_95d88_1 (by decide) ?_
  refine lv_lushr (v := (j_lushr a0 (32 : Int32))) hx hb dJ13_numberOfLeadingZeros_95d88_3 rfl ?_
  refine lv_l2i hx hb dJ13_numberOfLeadingZeros_95d88_4 rfl ?_
  refine lv_istore_n (lv' := [(2, .int (j_lushr a0 (32 : Int32)).toInt32), (0, .long a0)]) hx hb dJ13_numberOfLeadingZeros_95d88_5 rfl hl (by decide) rfl (fun ls hl => ?_)
  exact J_c6 (j_lushr a0 (32 : Int32)).toInt32 ls hf (lv_sub hl [1, 0] rfl)
theorem k_J13_numberOfLeadingZeros_95d88 {p : Program} {l : Launch} {e : Env} {R : Room} {s : State} {m : MethodId} {args : Array Value} {below : List Frame} {meth : Method} {c : Code} {H : Heap} {locs : List Loc} {Q : State → Prop} {cc : ByteArray} {pc : Nat} {ls : Array Slot} {rest : List Value} {own : String} {index nL : Nat} {a0 : Int64} (S : CallFix p m c cc nL s args tbG own) (hl : Cond.methodLink own index yJ13_numberOfLeadingZeros_95d88 ∈ tbG) (hR : 1 + 1 ≤ R.frames ∧ 8 + (3 + 11) + 21 ≤ R.locals) (hsz : ls.size = nL) (hcat : (rest.map fun v => v.category).sum ≤ 8) (hdg : decode cc pc = .ok (.invokestatic index, 3)) (kk : W p l e R s m args below meth c H locs 0 0 Q (F0 m (pc + 3) ls (.int (F_J13_numberOfLeadingZeros_95d88 a0) :: rest))) : W p l e R s m args below meth c H locs 0 0 Q (F0 m pc ls (.long a0 :: rest)) :=
  ks (As := [.long a0]) (ov := some (.int (F_J13_numberOfLeadingZeros_95d88 a0))) S (c_J13_numberOfLeadingZeros_95d88 l a0 _ rfl) ⟨tb_cB 1 S.2.2.2.2 tc_J13_numberOfLeadingZeros_95d88 ti_J13 hl rfl rfl (by decide +kernel) hR, S.2.2.2.2 _ ts_J13_numberOfLeadingZeros_95d88⟩ rfl hsz rfl hcat hdg kk

theorem dX7_zerosAbove_0 : decode cX7_zerosAbove 0 = .ok (.lload_n 0, 1) := by decide +kernel
theorem dX7_zerosAbove_1 : decode cX7_zerosAbove 1 = .ok (.invokestatic 120, 3) := by decide +kernel
theorem dX7_zerosAbove_4 : decode cX7_zerosAbove 4 = .ok (.bipush 64, 2) := by decide +kernel
theorem dX7_zerosAbove_6 : decode cX7_zerosAbove 6 = .ok (.iload_n 2, 1) := by decide +kernel
theorem dX7_zerosAbove_7 : decode cX7_zerosAbove 7 = .ok (.invokestatic 41, 3) := by decide +kernel
theorem dX7_zerosAbove_10 : decode cX7_zerosAbove 10 = .ok (.isub, 1) := by decide +kernel
theorem dX7_zerosAbove_11 : decode cX7_zerosAbove 11 = .ok (.isub, 1) := by decide +kernel
theorem dX7_zerosAbove_12 : decode cX7_zerosAbove 12 = .ok (.i2l, 1) := by decide +kernel
theorem dX7_zerosAbove_13 : decode cX7_zerosAbove 13 = .ok (.lreturn, 1) := by decide +kernel
def F_X7_zerosAbove (a0 : Int64) (a1 : Bool) : Int64 := ((F_J13_numberOfLeadingZeros_95d88 a0) - ((64 : Int32) - (F_X1_width a1))).toInt64
set_option maxHeartbeats 4000000 in
set_option maxRecDepth 100000 in
theorem c_X7_zerosAbove (l : Launch) (a0 : Int64) (a1 : Bool) (res : Int64) (hf : F_X7_zerosAbove a0 a1 = res) : Met l yX7_zerosAbove (wsC yX7_zerosAbove cX7_zerosAbove 3 (some .long)) { frames := 2, cells := 0, slots := 0, locals := 43 } (fun v _ => v = ([.long a0, .int (zB a1)] : List Value).toArray) (gS (some (.long res))) 0 0 (fun _ => False) := by
  refine mk_s_l (own := RX7) (by decide) rfl _ (Nat.le_of_ble_eq_true rfl) (fun p e s m below meth c H locs Q ls S hl hend => ?_)
  have hx := S.1
  have hb := S.2.1
  have hown := S.2.2.2.1
  have hts := S.2.2.2.2
  have hl : lv_has ls 3 [(0, .long a0), (2, .int (zB a1))] := hl
  unfold F_X7_zerosAbove at hf
  refine lv_lload_n hx hb dX7_zerosAbove_0 rfl (lv_at hl 0 rfl) ?_
  refine k_J13_numberOfLeadingZeros_95d88 (a0 := a0) S tl_X7_120 ⟨Nat.le_of_ble_eq_true rfl, Nat.le_of_ble_eq_true rfl⟩ hl.1 (Nat.le_of_ble_eq_true rfl) dX7_zerosAbove_1 ?_
  refine lv_bipush (v := 64) hx hb dX7_zerosAbove_4 (by decide) ?_
  refine lv_iload_n hx hb dX7_zerosAbove_6 rfl (lv_at hl 1 rfl) ?_
  refine k_X1_width (a0 := a1) S tl_X7_41 ⟨Nat.le_of_ble_eq_true rfl, Nat.le_of_ble_eq_true rfl⟩ hl.1 (Nat.le_of_ble_eq_true rfl) dX7_zerosAbove_7 ?_
  refine lv_isub hx hb dX7_zerosAbove_10 ?_
  refine lv_isub hx hb dX7_zerosAbove_11 ?_
  refine lv_i2l hx hb dX7_zerosAbove_12 rfl ?_
  exact hend ((F_J13_numberOfLeadingZeros_95d88 a0) - ((64 : Int32) - (F_X1_width a1))).toInt64 13 ls hf dX7_zerosAbove_13
theorem k_X7_zerosAbove {p : Program} {l : Launch} {e : Env} {R : Room} {s : State} {m : MethodId} {args : Array Value} {below : List Frame} {meth : Method} {c : Code} {H : Heap} {locs : List Loc} {Q : State → Prop} {cc : ByteArray} {pc : Nat} {ls : Array Slot} {rest : List Value} {own : String} {index nL : Nat} {a0 : Int64} {a1 : Bool} (S : CallFix p m c cc nL s args tbG own) (hl : Cond.methodLink own index yX7_zerosAbove ∈ tbG) (hR : 2 + 1 ≤ R.frames ∧ 8 + (3 + 11) + 43 ≤ R.locals) (hsz : ls.size = nL) (hcat : (rest.map fun v => v.category).sum ≤ 8) (hdg : decode cc pc = .ok (.invokestatic index, 3)) (kk : W p l e R s m args below meth c H locs 0 0 Q (F0 m (pc + 3) ls (.long (F_X7_zerosAbove a0 a1) :: rest))) : W p l e R s m args below meth c H locs 0 0 Q (F0 m pc ls (.int (zB a1) :: .long a0 :: rest)) :=
  ks (As := [.long a0, .int (zB a1)]) (ov := some (.long (F_X7_zerosAbove a0 a1))) S (c_X7_zerosAbove l a0 a1 _ rfl) ⟨tb_cB 2 S.2.2.2.2 tc_X7_zerosAbove ti_X7 hl rfl rfl (by decide +kernel) hR, S.2.2.2.2 _ ts_X7_zerosAbove⟩ rfl hsz rfl hcat hdg kk

theorem dX7_likeTheHighest_0 : decode cX7_likeTheHighest 0 = .ok (.iload_n 2, 1) := by decide +kernel
theorem dX7_likeTheHighest_1 : decode cX7_likeTheHighest 1 = .ok (.ifCond .eq 7, 3) := by decide +kernel
theorem dX7_likeTheHighest_4 : decode cX7_likeTheHighest 4 = .ok (.lload_n 0, 1) := by decide +kernel
theorem dX7_likeTheHighest_5 : decode cX7_likeTheHighest 5 = .ok (.goto 6, 3) := by decide +kernel
theorem dX7_likeTheHighest_8 : decode cX7_likeTheHighest 8 = .ok (.lload_n 0, 1) := by decide +kernel
theorem dX7_likeTheHighest_9 : decode cX7_likeTheHighest 9 = .ok (.l2i, 1) := by decide +kernel
theorem dX7_likeTheHighest_10 : decode cX7_likeTheHighest 10 = .ok (.i2l, 1) := by decide +kernel
theorem dX7_likeTheHighest_11 : decode cX7_likeTheHighest 11 = .ok (.lstore_n 3, 1) := by decide +kernel
theorem dX7_likeTheHighest_12 : decode cX7_likeTheHighest 12 = .ok (.lload_n 3, 1) := by decide +kernel
theorem dX7_likeTheHighest_13 : decode cX7_likeTheHighest 13 = .ok (.lload_n 3, 1) := by decide +kernel
theorem dX7_likeTheHighest_14 : decode cX7_likeTheHighest 14 = .ok (.iconst 1, 1) := by decide +kernel
theorem dX7_likeTheHighest_15 : decode cX7_likeTheHighest 15 = .ok (.lshr, 1) := by decide +kernel
theorem dX7_likeTheHighest_16 : decode cX7_likeTheHighest 16 = .ok (.lxor, 1) := by decide +kernel
theorem dX7_likeTheHighest_17 : decode cX7_likeTheHighest 17 = .ok (.iload_n 2, 1) := by decide +kernel
theorem dX7_likeTheHighest_18 : decode cX7_likeTheHighest 18 = .ok (.invokestatic 29, 3) := by decide +kernel
theorem dX7_likeTheHighest_21 : decode cX7_likeTheHighest 21 = .ok (.iload_n 2, 1) := by decide +kernel
theorem dX7_likeTheHighest_22 : decode cX7_likeTheHighest 22 = .ok (.invokestatic 110, 3) := by decide +kernel
theorem dX7_likeTheHighest_25 : decode cX7_likeTheHighest 25 = .ok (.lconst 1, 1) := by decide +kernel
theorem dX7_likeTheHighest_26 : decode cX7_likeTheHighest 26 = .ok (.lsub, 1) := by decide +kernel
theorem dX7_likeTheHighest_27 : decode cX7_likeTheHighest 27 = .ok (.lreturn, 1) := by decide +kernel
def F_X7_likeTheHighest_c11 (a0 : Int64) (a1 : Bool) (s0 : Int64) : Int64 := ((F_X7_zerosAbove (F_X1_narrow (s0 ^^^ (j_lshr s0 (1 : Int32))) a1) a1) - (1 : Int64))
def F_X7_likeTheHighest (a0 : Int64) (a1 : Bool) : Int64 := (if a1 = true then (F_X7_likeTheHighest_c11 a0 a1 a0) else (F_X7_likeTheHighest_c11 a0 a1 a0.toInt32.toInt64))
set_option maxHeartbeats 4000000 in
set_option maxRecDepth 100000 in
theorem c_X7_likeTheHighest (l : Launch) (a0 : Int64) (a1 : Bool) (res : Int64) (hf : F_X7_likeTheHighest a0 a1 = res) : Met l yX7_likeTheHighest (wsC yX7_likeTheHighest cX7_likeTheHighest 5 (some .long)) { frames := 3, cells := 0, slots := 0, locals := 65 } (fun v _ => v = ([.long a0, .int (zB a1)] : List Value).toArray) (gS (some (.long res))) 0 0 (fun _ => False) := by
  refine mk_s_l (own := RX7) (by decide) rfl _ (Nat.le_of_ble_eq_true rfl) (fun p e s m below meth c H locs Q ls S hl hend => ?_)
  have hx := S.1
  have hb := S.2.1
  have hown := S.2.2.2.1
  have hts := S.2.2.2.2
  have hl : lv_has ls 5 [(0, .long a0), (2, .int (zB a1))] := hl
  have J_c11 : ∀ (s0 : Int64) (ls : Array Slot), F_X7_likeTheHighest_c11 a0 a1 s0 = res → lv_has ls 5 [(2, .int (zB a1))] → W p l e { frames := 3, cells := 0, slots := 0, locals := 65 } s m ([.long a0, .int (zB a1)] : List Value).toArray below meth c H locs 0 0 Q (F0 m 11 ls [.long s0]) := by
    intro s0 ls hf hl
    unfold F_X7_likeTheHighest_c11 at hf
    refine lv_lstore_n (lv' := [(3, .long s0), (2, .int (zB a1))]) hx hb dX7_likeTheHighest_11 rfl hl (by decide) rfl (fun ls hl => ?_)
    refine lv_lload_n hx hb dX7_likeTheHighest_12 rfl (lv_at hl 0 rfl) ?_
    refine lv_lload_n hx hb dX7_likeTheHighest_13 rfl (lv_at hl 0 rfl) ?_
    refine lv_iconst (v := 1) hx hb dX7_likeTheHighest_14 (by decide) ?_
    refine lv_lshr (v := (j_lshr s0 (1 : Int32))) hx hb dX7_likeTheHighest_15 rfl ?_
    refine lv_lxor hx hb dX7_likeTheHighest_16 ?_
    refine lv_iload_n hx hb dX7_likeTheHighest_17 rfl (lv_at hl 1 rfl) ?_
    refine k_X1_narrow (a0 := (s0 ^^^ (j_lshr s0 (1 : Int32)))) (a1 := a1) S tl_X7_29 ⟨Nat.le_of_ble_eq_true rfl, Nat.le_of_ble_eq_true rfl⟩ hl.1 (Nat.le_of_ble_eq_true rfl) dX7_likeTheHighest_18 ?_
    refine lv_iload_n hx hb dX7_likeTheHighest_21 rfl (lv_at hl 1 rfl) ?_
    refine k_X7_zerosAbove (a0 := (F_X1_narrow (s0 ^^^ (j_lshr s0 (1 : Int32))) a1)) (a1 := a1) S tl_X7_110 ⟨Nat.le_of_ble_eq_true rfl, Nat.le_of_ble_eq_true rfl⟩ hl.1 (Nat.le_of_ble_eq_true rfl) dX7_likeTheHighest_22 ?_
    refine lv_lconst (v := 1) hx hb dX7_likeTheHighest_25 (by decide) ?_
    refine lv_lsub hx hb dX7_likeTheHighest_26 ?_
    exact hend ((F_X7_zerosAbove (F_X1_narrow (s0 ^^^ (j_lshr s0 (1 : Int32))) a1) a1) - (1 : Int64)) 27 ls hf dX7_likeTheHighest_27
  unfold F_X7_likeTheHighest at hf
  refine lv_iload_n hx hb dX7_likeTheHighest_0 rfl (lv_at hl 1 rfl) ?_
  refine gz_eq (tgt := 8) hx hb dX7_likeTheHighest_1 (by decide) (fun c_1 => ?_) (fun c_1 => ?_)
  · rw [if_neg c_1] at hf
    refine lv_lload_n hx hb dX7_likeTheHighest_8 rfl (lv_at hl 0 rfl) ?_
    refine lv_l2i hx hb dX7_likeTheHighest_9 rfl ?_
    refine lv_i2l hx hb dX7_likeTheHighest_10 rfl ?_
    exact J_c11 a0.toInt32.toInt64 ls hf (lv_sub hl [1] rfl)
  · rw [if_pos c_1] at hf
    refine lv_lload_n hx hb dX7_likeTheHighest_4 rfl (lv_at hl 0 rfl) ?_
    refine lv_goto (tgt := 11) hx hb dX7_likeTheHighest_5 (by decide) ?_
    exact J_c11 a0 ls hf (lv_sub hl [1] rfl)
theorem k_X7_likeTheHighest {p : Program} {l : Launch} {e : Env} {R : Room} {s : State} {m : MethodId} {args : Array Value} {below : List Frame} {meth : Method} {c : Code} {H : Heap} {locs : List Loc} {Q : State → Prop} {cc : ByteArray} {pc : Nat} {ls : Array Slot} {rest : List Value} {own : String} {index nL : Nat} {a0 : Int64} {a1 : Bool} (S : CallFix p m c cc nL s args tbG own) (hl : Cond.methodLink own index yX7_likeTheHighest ∈ tbG) (hR : 3 + 1 ≤ R.frames ∧ 8 + (5 + 11) + 65 ≤ R.locals) (hsz : ls.size = nL) (hcat : (rest.map fun v => v.category).sum ≤ 8) (hdg : decode cc pc = .ok (.invokestatic index, 3)) (kk : W p l e R s m args below meth c H locs 0 0 Q (F0 m (pc + 3) ls (.long (F_X7_likeTheHighest a0 a1) :: rest))) : W p l e R s m args below meth c H locs 0 0 Q (F0 m pc ls (.int (zB a1) :: .long a0 :: rest)) :=
  ks (As := [.long a0, .int (zB a1)]) (ov := some (.long (F_X7_likeTheHighest a0 a1))) S (c_X7_likeTheHighest l a0 a1 _ rfl) ⟨tb_cB 2 S.2.2.2.2 tc_X7_likeTheHighest ti_X7 hl rfl rfl (by decide +kernel) hR, S.2.2.2.2 _ ts_X7_likeTheHighest⟩ rfl hsz rfl hcat hdg kk

theorem dX7_one_0 : decode cX7_one 0 = .ok (.iload_n 1, 1) := by decide +kernel
theorem dX7_one_1 : decode cX7_one 1 = .ok (.ifCond .ge 7, 3) := by decide +kernel
theorem dX7_one_4 : decode cX7_one 4 = .ok (.iconst 1, 1) := by decide +kernel
theorem dX7_one_5 : decode cX7_one 5 = .ok (.goto 4, 3) := by decide +kernel
theorem dX7_one_8 : decode cX7_one 8 = .ok (.iconst 0, 1) := by decide +kernel
theorem dX7_one_9 : decode cX7_one 9 = .ok (.istore_n 2, 1) := by decide +kernel
theorem dX7_one_10 : decode cX7_one 10 = .ok (.iload_n 1, 1) := by decide +kernel
theorem dX7_one_11 : decode cX7_one 11 = .ok (.bipush 10, 2) := by decide +kernel
theorem dX7_one_13 : decode cX7_one 13 = .ok (.bipush 6, 2) := by decide +kernel
theorem dX7_one_15 : decode cX7_one 15 = .ok (.invokestatic 17, 3) := by decide +kernel
theorem dX7_one_18 : decode cX7_one 18 = .ok (.istore_n 3, 1) := by decide +kernel
theorem dX7_one_19 : decode cX7_one 19 = .ok (.iload_n 1, 1) := by decide +kernel
theorem dX7_one_20 : decode cX7_one 20 = .ok (.bipush 29, 2) := by decide +kernel
theorem dX7_one_22 : decode cX7_one 22 = .ok (.invokestatic 37, 3) := by decide +kernel
theorem dX7_one_25 : decode cX7_one 25 = .ok (.ifCond .ne 13, 3) := by decide +kernel
theorem dX7_one_28 : decode cX7_one 28 = .ok (.iload_n 1, 1) := by decide +kernel
theorem dX7_one_29 : decode cX7_one 29 = .ok (.bipush 16, 2) := by decide +kernel
theorem dX7_one_31 : decode cX7_one 31 = .ok (.iconst 5, 1) := by decide +kernel
theorem dX7_one_32 : decode cX7_one 32 = .ok (.invokestatic 17, 3) := by decide +kernel
theorem dX7_one_35 : decode cX7_one 35 = .ok (.ifCond .eq 5, 3) := by decide +kernel
theorem dX7_one_38 : decode cX7_one 38 = .ok (.iconst 0, 1) := by decide +kernel
theorem dX7_one_39 : decode cX7_one 39 = .ok (.ireturn, 1) := by decide +kernel
theorem dX7_one_40 : decode cX7_one 40 = .ok (.aload_n 0, 1) := by decide +kernel
theorem dX7_one_41 : decode cX7_one 41 = .ok (.iload_n 1, 1) := by decide +kernel
theorem dX7_one_42 : decode cX7_one 42 = .ok (.invokevirtual 52, 3) := by decide +kernel
theorem dX7_one_45 : decode cX7_one 45 = .ok (.lstore 4, 2) := by decide +kernel
theorem dX7_one_47 : decode cX7_one 47 = .ok (.iload_n 3, 1) := by decide +kernel
theorem dX7_one_48 : decode cX7_one 48 = .ok (.tableswitch 128 0 5 #[40, 59, 70, 81, 104, 116], 40) := by decide +kernel
theorem dX7_one_88 : decode cX7_one 88 = .ok (.aload_n 0, 1) := by decide +kernel
theorem dX7_one_89 : decode cX7_one 89 = .ok (.iload_n 1, 1) := by decide +kernel
theorem dX7_one_90 : decode cX7_one 90 = .ok (.lload 4, 2) := by decide +kernel
theorem dX7_one_92 : decode cX7_one 92 = .ok (.invokestatic 97, 3) := by decide +kernel
theorem dX7_one_95 : decode cX7_one 95 = .ok (.bipush 64, 2) := by decide +kernel
theorem dX7_one_97 : decode cX7_one 97 = .ok (.iload_n 2, 1) := by decide +kernel
theorem dX7_one_98 : decode cX7_one 98 = .ok (.invokestatic 41, 3) := by decide +kernel
theorem dX7_one_101 : decode cX7_one 101 = .ok (.isub, 1) := by decide +kernel
theorem dX7_one_102 : decode cX7_one 102 = .ok (.lushr, 1) := by decide +kernel
theorem dX7_one_103 : decode cX7_one 103 = .ok (.invokevirtual 61, 3) := by decide +kernel
theorem dX7_one_106 : decode cX7_one 106 = .ok (.ireturn, 1) := by decide +kernel
theorem dX7_one_107 : decode cX7_one 107 = .ok (.aload_n 0, 1) := by decide +kernel
theorem dX7_one_108 : decode cX7_one 108 = .ok (.iload_n 1, 1) := by decide +kernel
theorem dX7_one_109 : decode cX7_one 109 = .ok (.lload 4, 2) := by decide +kernel
theorem dX7_one_111 : decode cX7_one 111 = .ok (.invokestatic 101, 3) := by decide +kernel
theorem dX7_one_114 : decode cX7_one 114 = .ok (.invokevirtual 61, 3) := by decide +kernel
theorem dX7_one_117 : decode cX7_one 117 = .ok (.ireturn, 1) := by decide +kernel
theorem dX7_one_118 : decode cX7_one 118 = .ok (.aload_n 0, 1) := by decide +kernel
theorem dX7_one_119 : decode cX7_one 119 = .ok (.iload_n 1, 1) := by decide +kernel
theorem dX7_one_120 : decode cX7_one 120 = .ok (.lload 4, 2) := by decide +kernel
theorem dX7_one_122 : decode cX7_one 122 = .ok (.invokestatic 104, 3) := by decide +kernel
theorem dX7_one_125 : decode cX7_one 125 = .ok (.invokevirtual 61, 3) := by decide +kernel
theorem dX7_one_128 : decode cX7_one 128 = .ok (.ireturn, 1) := by decide +kernel
theorem dX7_one_129 : decode cX7_one 129 = .ok (.iload_n 2, 1) := by decide +kernel
theorem dX7_one_130 : decode cX7_one 130 = .ok (.ifCond .eq 20, 3) := by decide +kernel
theorem dX7_one_133 : decode cX7_one 133 = .ok (.aload_n 0, 1) := by decide +kernel
theorem dX7_one_134 : decode cX7_one 134 = .ok (.iload_n 1, 1) := by decide +kernel
theorem dX7_one_135 : decode cX7_one 135 = .ok (.lload 4, 2) := by decide +kernel
theorem dX7_one_137 : decode cX7_one 137 = .ok (.invokestatic 107, 3) := by decide +kernel
theorem dX7_one_140 : decode cX7_one 140 = .ok (.invokevirtual 61, 3) := by decide +kernel
theorem dX7_one_143 : decode cX7_one 143 = .ok (.ifCond .eq 7, 3) := by decide +kernel
theorem dX7_one_146 : decode cX7_one 146 = .ok (.iconst 1, 1) := by decide +kernel
theorem dX7_one_147 : decode cX7_one 147 = .ok (.goto 4, 3) := by decide +kernel
theorem dX7_one_150 : decode cX7_one 150 = .ok (.iconst 0, 1) := by decide +kernel
theorem dX7_one_151 : decode cX7_one 151 = .ok (.ireturn, 1) := by decide +kernel
theorem dX7_one_152 : decode cX7_one 152 = .ok (.aload_n 0, 1) := by decide +kernel
theorem dX7_one_153 : decode cX7_one 153 = .ok (.iload_n 1, 1) := by decide +kernel
theorem dX7_one_154 : decode cX7_one 154 = .ok (.lload 4, 2) := by decide +kernel
theorem dX7_one_156 : decode cX7_one 156 = .ok (.iload_n 2, 1) := by decide +kernel
theorem dX7_one_157 : decode cX7_one 157 = .ok (.invokestatic 110, 3) := by decide +kernel
theorem dX7_one_160 : decode cX7_one 160 = .ok (.invokevirtual 61, 3) := by decide +kernel
theorem dX7_one_163 : decode cX7_one 163 = .ok (.ireturn, 1) := by decide +kernel
theorem dX7_one_164 : decode cX7_one 164 = .ok (.aload_n 0, 1) := by decide +kernel
theorem dX7_one_165 : decode cX7_one 165 = .ok (.iload_n 1, 1) := by decide +kernel
theorem dX7_one_166 : decode cX7_one 166 = .ok (.lload 4, 2) := by decide +kernel
theorem dX7_one_168 : decode cX7_one 168 = .ok (.iload_n 2, 1) := by decide +kernel
theorem dX7_one_169 : decode cX7_one 169 = .ok (.invokestatic 113, 3) := by decide +kernel
theorem dX7_one_172 : decode cX7_one 172 = .ok (.invokevirtual 61, 3) := by decide +kernel
theorem dX7_one_175 : decode cX7_one 175 = .ok (.ireturn, 1) := by decide +kernel
theorem dX7_one_176 : decode cX7_one 176 = .ok (.iconst 0, 1) := by decide +kernel
theorem dX7_one_177 : decode cX7_one 177 = .ok (.ireturn, 1) := by decide +kernel
def F_X7_one_c106 (τ : XS) (a0 : Int32) (s0 : Bool) : Bool × XS := (s0, τ)
def F_X7_one_c143 (τ : XS) (a0 : Int32) (s0 : Bool) : Bool × XS := (if s0 = true then (true, τ) else (false, τ))
def F_X7_one_c175 (τ : XS) (a0 : Int32) (s0 : Bool) : Bool × XS := (s0, τ)
def F_X7_one_c47 (τ : XS) (a0 : Int32) (w2 : Bool) (w3 : Int32) (w4 : Int64) : Bool × XS := (if w3 = 0 then (F_X7_one_c106 (F_X7_put τ a0 (j_lushr (F_J13_reverse_067f4 w4) ((64 : Int32) - (F_X1_width w2)))).2 a0 (F_X7_put τ a0 (j_lushr (F_J13_reverse_067f4 w4) ((64 : Int32) - (F_X1_width w2)))).1) else (if w3 = 1 then ((F_X7_put τ a0 (F_X7_bytesOfPairs w4)).1, (F_X7_put τ a0 (F_X7_bytesOfPairs w4)).2) else (if w3 = 2 then ((F_X7_put τ a0 (F_X7_bytesOfFours w4)).1, (F_X7_put τ a0 (F_X7_bytesOfFours w4)).2) else (if w3 = 3 then (if w2 = true then (F_X7_one_c143 (F_X7_put τ a0 (F_J13_reverseBytes_067f4 w4)).2 a0 (F_X7_put τ a0 (F_J13_reverseBytes_067f4 w4)).1) else (false, τ)) else (if w3 = 4 then ((F_X7_put τ a0 (F_X7_zerosAbove w4 w2)).1, (F_X7_put τ a0 (F_X7_zerosAbove w4 w2)).2) else (if w3 = 5 then (F_X7_one_c175 (F_X7_put τ a0 (F_X7_likeTheHighest w4 w2)).2 a0 (F_X7_put τ a0 (F_X7_likeTheHighest w4 w2)).1) else (false, τ)))))))
def F_X7_one_c9 (τ : XS) (a0 : Int32) (s0 : Bool) : Bool × XS := (if (F_X1_isOne a0 (29 : Int32)) = true then (false, τ) else (if (F_X1_field a0 (16 : Int32) (5 : Int32)) = 0 then (F_X7_one_c47 τ a0 s0 (F_X1_field a0 (10 : Int32) (6 : Int32)) (F_X7_left τ a0)) else (false, τ)))
def F_X7_one (σ : XS) (a0 : Int32) : Bool × XS := (if 0 ≤ a0 then (F_X7_one_c9 σ a0 false) else (F_X7_one_c9 σ a0 true))
set_option maxHeartbeats 4000000 in
set_option maxRecDepth 100000 in
theorem c_X7_one (l : Launch) (z : Cx) (r : Nat → Nat) (σ : XS) (a0 : Int32) (sz : Nat) (res : Bool × XS) (hf : F_X7_one σ a0 = res) : Met l yX7_one (wsC yX7_one cX7_one 6 (some .boolean)) { frames := 4, cells := 0, slots := 0, locals := 89 } (mPc z (xW z r σ) sz [.ref (r 9), .int a0]) (gM z (va_A (xW z r σ) sz) (some (.int (zB res.1))) (xW z r res.2)) 0 0 (va_A (xW z r σ) sz) := by
  refine mk_m_z (own := RX7) (wf := xW z r) (by decide) rfl sz _ (Nat.le_of_ble_eq_true rfl) (fun p e s m below meth c A H locs Q ls S hK hA hP hD hS hl hend => ?_)
  have hx := S.1
  have hb := S.2.1
  have hown := S.2.2.2.1
  have hts := S.2.2.2.2
  have hl : lv_has ls 6 [(0, .ref (r 9)), (1, .int a0)] := hl
  have J_c106 : ∀ (τ : XS) (s0 : Bool) (H : Heap) (locs : List Loc) (ls : Array Slot), F_X7_one_c106 τ a0 s0 = res → va_P z.1 vwCl (xW z r τ) H → va_D A (xW z r τ) → va_S A s.heap H locs → lv_has ls 6 [] → W p l e { frames := 4, cells := 0, slots := 0, locals := 89 } s m ([.ref (r 9), .int a0] : List Value).toArray below meth c H locs 0 0 Q (F0 m 106 ls [.int (zB s0)]) := by
    intro τ s0 H locs ls hf hP hD hS hl
    unfold F_X7_one_c106 at hf
    exact hend s0 τ H locs 106 ls hf hP hD hS dX7_one_106
  have J_c143 : ∀ (τ : XS) (s0 : Bool) (H : Heap) (locs : List Loc) (ls : Array Slot), F_X7_one_c143 τ a0 s0 = res → va_P z.1 vwCl (xW z r τ) H → va_D A (xW z r τ) → va_S A s.heap H locs → lv_has ls 6 [] → W p l e { frames := 4, cells := 0, slots := 0, locals := 89 } s m ([.ref (r 9), .int a0] : List Value).toArray below meth c H locs 0 0 Q (F0 m 143 ls [.int (zB s0)]) := by
    intro τ s0 H locs ls hf hP hD hS hl
    unfold F_X7_one_c143 at hf
    refine gz_eq (tgt := 150) hx hb dX7_one_143 (by decide) (fun c_143 => ?_) (fun c_143 => ?_)
    · rw [if_neg c_143] at hf
      refine lv_iconst (v := 0) hx hb dX7_one_150 (by decide) ?_
      exact hend false τ H locs 151 ls hf hP hD hS dX7_one_151
    · rw [if_pos c_143] at hf
      refine lv_iconst (v := 1) hx hb dX7_one_146 (by decide) ?_
      refine lv_goto (tgt := 151) hx hb dX7_one_147 (by decide) ?_
      exact hend true τ H locs 151 ls hf hP hD hS dX7_one_151
  have J_c175 : ∀ (τ : XS) (s0 : Bool) (H : Heap) (locs : List Loc) (ls : Array Slot), F_X7_one_c175 τ a0 s0 = res → va_P z.1 vwCl (xW z r τ) H → va_D A (xW z r τ) → va_S A s.heap H locs → lv_has ls 6 [] → W p l e { frames := 4, cells := 0, slots := 0, locals := 89 } s m ([.ref (r 9), .int a0] : List Value).toArray below meth c H locs 0 0 Q (F0 m 175 ls [.int (zB s0)]) := by
    intro τ s0 H locs ls hf hP hD hS hl
    unfold F_X7_one_c175 at hf
    exact hend s0 τ H locs 175 ls hf hP hD hS dX7_one_175
  have J_c47 : ∀ (τ : XS) (w2 : Bool) (w3 : Int32) (w4 : Int64) (H : Heap) (locs : List Loc) (ls : Array Slot), F_X7_one_c47 τ a0 w2 w3 w4 = res → va_P z.1 vwCl (xW z r τ) H → va_D A (xW z r τ) → va_S A s.heap H locs → lv_has ls 6 [(0, .ref (r 9)), (1, .int a0), (2, .int (zB w2)), (3, .int w3), (4, .long w4)] → W p l e { frames := 4, cells := 0, slots := 0, locals := 89 } s m ([.ref (r 9), .int a0] : List Value).toArray below meth c H locs 0 0 Q (F0 m 47 ls []) := by
    intro τ w2 w3 w4 H locs ls hf hP hD hS hl
    unfold F_X7_one_c47 at hf
    refine lv_iload_n hx hb dX7_one_47 rfl (lv_at hl 3 rfl) ?_
    by_cases c_48_0 : w3 = 0
    · rw [if_pos c_48_0] at hf
      refine gt_in (k := 0) (tgt := 88) hx hb dX7_one_48 c_48_0 (by decide) (by decide) rfl (by decide) ?_
      refine lv_aload_n hx hb dX7_one_88 rfl (lv_at hl 0 rfl) ?_
      refine lv_iload_n hx hb dX7_one_89 rfl (lv_at hl 1 rfl) ?_
      refine lv_lload hx hb dX7_one_90 (lv_at hl 4 rfl) ?_
      refine k_J13_reverse_067f4 (a0 := w4) S tl_X7_97 ⟨Nat.le_of_ble_eq_true rfl, Nat.le_of_ble_eq_true rfl⟩ hl.1 (Nat.le_of_ble_eq_true rfl) dX7_one_92 ?_
      refine lv_bipush (v := 64) hx hb dX7_one_95 (by decide) ?_
      refine lv_iload_n hx hb dX7_one_97 rfl (lv_at hl 2 rfl) ?_
      refine k_X1_width (a0 := w2) S tl_X7_41 ⟨Nat.le_of_ble_eq_true rfl, Nat.le_of_ble_eq_true rfl⟩ hl.1 (Nat.le_of_ble_eq_true rfl) dX7_one_98 ?_
      refine lv_isub hx hb dX7_one_101 ?_
      refine lv_lushr (v := (j_lushr (F_J13_reverse_067f4 w4) ((64 : Int32) - (F_X1_width w2)))) hx hb dX7_one_102 rfl ?_
      refine k_X7_put (a0 := a0) (a1 := (j_lushr (F_J13_reverse_067f4 w4) ((64 : Int32) - (F_X1_width w2)))) S hK hA hP hD hS tl_X7_61 ⟨Nat.le_of_ble_eq_true rfl, Nat.le_of_ble_eq_true rfl⟩ hl.1 (Nat.le_of_ble_eq_true rfl) dX7_one_103 (fun H locs hP hD hS => ?_)
      exact J_c106 (F_X7_put τ a0 (j_lushr (F_J13_reverse_067f4 w4) ((64 : Int32) - (F_X1_width w2)))).2 (F_X7_put τ a0 (j_lushr (F_J13_reverse_067f4 w4) ((64 : Int32) - (F_X1_width w2)))).1 H locs ls hf hP hD hS (lv_sub hl [] rfl)
    rw [if_neg c_48_0] at hf
    by_cases c_48_1 : w3 = 1
    · rw [if_pos c_48_1] at hf
      refine gt_in (k := 1) (tgt := 107) hx hb dX7_one_48 c_48_1 (by decide) (by decide) rfl (by decide) ?_
      refine lv_aload_n hx hb dX7_one_107 rfl (lv_at hl 0 rfl) ?_
      refine lv_iload_n hx hb dX7_one_108 rfl (lv_at hl 1 rfl) ?_
      refine lv_lload hx hb dX7_one_109 (lv_at hl 4 rfl) ?_
      refine k_X7_bytesOfPairs (a0 := w4) S tl_X7_101 ⟨Nat.le_of_ble_eq_true rfl, Nat.le_of_ble_eq_true rfl⟩ hl.1 (Nat.le_of_ble_eq_true rfl) dX7_one_111 ?_
      refine k_X7_put (a0 := a0) (a1 := (F_X7_bytesOfPairs w4)) S hK hA hP hD hS tl_X7_61 ⟨Nat.le_of_ble_eq_true rfl, Nat.le_of_ble_eq_true rfl⟩ hl.1 (Nat.le_of_ble_eq_true rfl) dX7_one_114 (fun H locs hP hD hS => ?_)
      exact hend (F_X7_put τ a0 (F_X7_bytesOfPairs w4)).1 (F_X7_put τ a0 (F_X7_bytesOfPairs w4)).2 H locs 117 ls hf hP hD hS dX7_one_117
    rw [if_neg c_48_1] at hf
    by_cases c_48_2 : w3 = 2
    · rw [if_pos c_48_2] at hf
      refine gt_in (k := 2) (tgt := 118) hx hb dX7_one_48 c_48_2 (by decide) (by decide) rfl (by decide) ?_
      refine lv_aload_n hx hb dX7_one_118 rfl (lv_at hl 0 rfl) ?_
      refine lv_iload_n hx hb dX7_one_119 rfl (lv_at hl 1 rfl) ?_
      refine lv_lload hx hb dX7_one_120 (lv_at hl 4 rfl) ?_
      refine k_X7_bytesOfFours (a0 := w4) S tl_X7_104 ⟨Nat.le_of_ble_eq_true rfl, Nat.le_of_ble_eq_true rfl⟩ hl.1 (Nat.le_of_ble_eq_true rfl) dX7_one_122 ?_
      refine k_X7_put (a0 := a0) (a1 := (F_X7_bytesOfFours w4)) S hK hA hP hD hS tl_X7_61 ⟨Nat.le_of_ble_eq_true rfl, Nat.le_of_ble_eq_true rfl⟩ hl.1 (Nat.le_of_ble_eq_true rfl) dX7_one_125 (fun H locs hP hD hS => ?_)
      exact hend (F_X7_put τ a0 (F_X7_bytesOfFours w4)).1 (F_X7_put τ a0 (F_X7_bytesOfFours w4)).2 H locs 128 ls hf hP hD hS dX7_one_128
    rw [if_neg c_48_2] at hf
    by_cases c_48_3 : w3 = 3
    · rw [if_pos c_48_3] at hf
      refine gt_in (k := 3) (tgt := 129) hx hb dX7_one_48 c_48_3 (by decide) (by decide) rfl (by decide) ?_
      refine lv_iload_n hx hb dX7_one_129 rfl (lv_at hl 2 rfl) ?_
      refine gz_eq (tgt := 150) hx hb dX7_one_130 (by decide) (fun c_130 => ?_) (fun c_130 => ?_)
      · rw [if_neg c_130] at hf
        refine lv_iconst (v := 0) hx hb dX7_one_150 (by decide) ?_
        exact hend false τ H locs 151 ls hf hP hD hS dX7_one_151
      · rw [if_pos c_130] at hf
        refine lv_aload_n hx hb dX7_one_133 rfl (lv_at hl 0 rfl) ?_
        refine lv_iload_n hx hb dX7_one_134 rfl (lv_at hl 1 rfl) ?_
        refine lv_lload hx hb dX7_one_135 (lv_at hl 4 rfl) ?_
        refine k_J13_reverseBytes_067f4 (a0 := w4) S tl_X7_107 ⟨Nat.le_of_ble_eq_true rfl, Nat.le_of_ble_eq_true rfl⟩ hl.1 (Nat.le_of_ble_eq_true rfl) dX7_one_137 ?_
        refine k_X7_put (a0 := a0) (a1 := (F_J13_reverseBytes_067f4 w4)) S hK hA hP hD hS tl_X7_61 ⟨Nat.le_of_ble_eq_true rfl, Nat.le_of_ble_eq_true rfl⟩ hl.1 (Nat.le_of_ble_eq_true rfl) dX7_one_140 (fun H locs hP hD hS => ?_)
        exact J_c143 (F_X7_put τ a0 (F_J13_reverseBytes_067f4 w4)).2 (F_X7_put τ a0 (F_J13_reverseBytes_067f4 w4)).1 H locs ls hf hP hD hS (lv_sub hl [] rfl)
    rw [if_neg c_48_3] at hf
    by_cases c_48_4 : w3 = 4
    · rw [if_pos c_48_4] at hf
      refine gt_in (k := 4) (tgt := 152) hx hb dX7_one_48 c_48_4 (by decide) (by decide) rfl (by decide) ?_
      refine lv_aload_n hx hb dX7_one_152 rfl (lv_at hl 0 rfl) ?_
      refine lv_iload_n hx hb dX7_one_153 rfl (lv_at hl 1 rfl) ?_
      refine lv_lload hx hb dX7_one_154 (lv_at hl 4 rfl) ?_
      refine lv_iload_n hx hb dX7_one_156 rfl (lv_at hl 2 rfl) ?_
      refine k_X7_zerosAbove (a0 := w4) (a1 := w2) S tl_X7_110 ⟨Nat.le_of_ble_eq_true rfl, Nat.le_of_ble_eq_true rfl⟩ hl.1 (Nat.le_of_ble_eq_true rfl) dX7_one_157 ?_
      refine k_X7_put (a0 := a0) (a1 := (F_X7_zerosAbove w4 w2)) S hK hA hP hD hS tl_X7_61 ⟨Nat.le_of_ble_eq_true rfl, Nat.le_of_ble_eq_true rfl⟩ hl.1 (Nat.le_of_ble_eq_true rfl) dX7_one_160 (fun H locs hP hD hS => ?_)
      exact hend (F_X7_put τ a0 (F_X7_zerosAbove w4 w2)).1 (F_X7_put τ a0 (F_X7_zerosAbove w4 w2)).2 H locs 163 ls hf hP hD hS dX7_one_163
    rw [if_neg c_48_4] at hf
    by_cases c_48_5 : w3 = 5
    · rw [if_pos c_48_5] at hf
      refine gt_in (k := 5) (tgt := 164) hx hb dX7_one_48 c_48_5 (by decide) (by decide) rfl (by decide) ?_
      refine lv_aload_n hx hb dX7_one_164 rfl (lv_at hl 0 rfl) ?_
      refine lv_iload_n hx hb dX7_one_165 rfl (lv_at hl 1 rfl) ?_
      refine lv_lload hx hb dX7_one_166 (lv_at hl 4 rfl) ?_
      refine lv_iload_n hx hb dX7_one_168 rfl (lv_at hl 2 rfl) ?_
      refine k_X7_likeTheHighest (a0 := w4) (a1 := w2) S tl_X7_113 ⟨Nat.le_of_ble_eq_true rfl, Nat.le_of_ble_eq_true rfl⟩ hl.1 (Nat.le_of_ble_eq_true rfl) dX7_one_169 ?_
      refine k_X7_put (a0 := a0) (a1 := (F_X7_likeTheHighest w4 w2)) S hK hA hP hD hS tl_X7_61 ⟨Nat.le_of_ble_eq_true rfl, Nat.le_of_ble_eq_true rfl⟩ hl.1 (Nat.le_of_ble_eq_true rfl) dX7_one_172 (fun H locs hP hD hS => ?_)
      exact J_c175 (F_X7_put τ a0 (F_X7_likeTheHighest w4 w2)).2 (F_X7_put τ a0 (F_X7_likeTheHighest w4 w2)).1 H locs ls hf hP hD hS (lv_sub hl [] rfl)
    rw [if_neg c_48_5] at hf
    refine lv_tableOut (tgt := 176) hx hb dX7_one_48 (by have q0 := lv_neT c_48_0 (show ((0 : Int32)).toInt = 0 from rfl); have q1 := lv_neT c_48_1 (show ((1 : Int32)).toInt = 1 from rfl); have q2 := lv_neT c_48_2 (show ((2 : Int32)).toInt = 2 from rfl); have q3 := lv_neT c_48_3 (show ((3 : Int32)).toInt = 3 from rfl); have q4 := lv_neT c_48_4 (show ((4 : Int32)).toInt = 4 from rfl); have q5 := lv_neT c_48_5 (show ((5 : Int32)).toInt = 5 from rfl); omega) (by decide) ?_
    refine lv_iconst (v := 0) hx hb dX7_one_176 (by decide) ?_
    exact hend false τ H locs 177 ls hf hP hD hS dX7_one_177
  have J_c9 : ∀ (τ : XS) (s0 : Bool) (H : Heap) (locs : List Loc) (ls : Array Slot), F_X7_one_c9 τ a0 s0 = res → va_P z.1 vwCl (xW z r τ) H → va_D A (xW z r τ) → va_S A s.heap H locs → lv_has ls 6 [(0, .ref (r 9)), (1, .int a0)] → W p l e { frames := 4, cells := 0, slots := 0, locals := 89 } s m ([.ref (r 9), .int a0] : List Value).toArray below meth c H locs 0 0 Q (F0 m 9 ls [.int (zB s0)]) := by
    intro τ s0 H locs ls hf hP hD hS hl
    unfold F_X7_one_c9 at hf
    refine lv_istore_n (lv' := [(2, .int (zB s0)), (0, .ref (r 9)), (1, .int a0)]) hx hb dX7_one_9 rfl hl (by decide) rfl (fun ls hl => ?_)
    refine lv_iload_n hx hb dX7_one_10 rfl (lv_at hl 2 rfl) ?_
    refine lv_bipush (v := 10) hx hb dX7_one_11 (by decide) ?_
    refine lv_bipush (v := 6) hx hb dX7_one_13 (by decide) ?_
    refine k_X1_field (a0 := a0) (a1 := (10 : Int32)) (a2 := (6 : Int32)) S tl_X7_17 ⟨Nat.le_of_ble_eq_true rfl, Nat.le_of_ble_eq_true rfl⟩ hl.1 (Nat.le_of_ble_eq_true rfl) dX7_one_15 ?_
    refine lv_istore_n (lv' := [(3, .int (F_X1_field a0 (10 : Int32) (6 : Int32))), (2, .int (zB s0)), (0, .ref (r 9)), (1, .int a0)]) hx hb dX7_one_18 rfl hl (by decide) rfl (fun ls hl => ?_)
    refine lv_iload_n hx hb dX7_one_19 rfl (lv_at hl 3 rfl) ?_
    refine lv_bipush (v := 29) hx hb dX7_one_20 (by decide) ?_
    refine k_X1_isOne (a0 := a0) (a1 := (29 : Int32)) S tl_X7_37 ⟨Nat.le_of_ble_eq_true rfl, Nat.le_of_ble_eq_true rfl⟩ hl.1 (Nat.le_of_ble_eq_true rfl) dX7_one_22 ?_
    refine gz_ne (tgt := 38) hx hb dX7_one_25 (by decide) (fun c_25 => ?_) (fun c_25 => ?_)
    · rw [if_pos c_25] at hf
      refine lv_iconst (v := 0) hx hb dX7_one_38 (by decide) ?_
      exact hend false τ H locs 39 ls hf hP hD hS dX7_one_39
    · rw [if_neg c_25] at hf
      refine lv_iload_n hx hb dX7_one_28 rfl (lv_at hl 3 rfl) ?_
      refine lv_bipush (v := 16) hx hb dX7_one_29 (by decide) ?_
      refine lv_iconst (v := 5) hx hb dX7_one_31 (by decide) ?_
      refine k_X1_field (a0 := a0) (a1 := (16 : Int32)) (a2 := (5 : Int32)) S tl_X7_17 ⟨Nat.le_of_ble_eq_true rfl, Nat.le_of_ble_eq_true rfl⟩ hl.1 (Nat.le_of_ble_eq_true rfl) dX7_one_32 ?_
      refine lv_if_eq (tgt := 40) hx hb dX7_one_35 (by decide) (fun c_35 => ?_) (fun c_35 => ?_)
      · rw [if_pos c_35] at hf
        refine lv_aload_n hx hb dX7_one_40 rfl (lv_at hl 2 rfl) ?_
        refine lv_iload_n hx hb dX7_one_41 rfl (lv_at hl 3 rfl) ?_
        refine k_X7_left (a0 := a0) S hK hP tl_X7_52 ⟨Nat.le_of_ble_eq_true rfl, Nat.le_of_ble_eq_true rfl⟩ hl.1 (Nat.le_of_ble_eq_true rfl) dX7_one_42 ?_
        refine lv_lstore (lv' := [(4, .long (F_X7_left τ a0)), (3, .int (F_X1_field a0 (10 : Int32) (6 : Int32))), (2, .int (zB s0)), (0, .ref (r 9)), (1, .int a0)]) hx hb dX7_one_45 hl (by decide) rfl (fun ls hl => ?_)
        exact J_c47 τ s0 (F_X1_field a0 (10 : Int32) (6 : Int32)) (F_X7_left τ a0) H locs ls hf hP hD hS (lv_sub hl [3, 4, 2, 1, 0] rfl)
      · rw [if_neg c_35] at hf
        refine lv_iconst (v := 0) hx hb dX7_one_38 (by decide) ?_
        exact hend false τ H locs 39 ls hf hP hD hS dX7_one_39
  unfold F_X7_one at hf
  refine lv_iload_n hx hb dX7_one_0 rfl (lv_at hl 1 rfl) ?_
  refine lv_if_ge (tgt := 8) hx hb dX7_one_1 (by decide) (fun c_1 => ?_) (fun c_1 => ?_)
  · rw [if_pos c_1] at hf
    refine lv_iconst (v := 0) hx hb dX7_one_8 (by decide) ?_
    exact J_c9 σ false H locs ls hf hP hD hS (lv_sub hl [0, 1] rfl)
  · rw [if_neg c_1] at hf
    refine lv_iconst (v := 1) hx hb dX7_one_4 (by decide) ?_
    refine lv_goto (tgt := 9) hx hb dX7_one_5 (by decide) ?_
    exact J_c9 σ true H locs ls hf hP hD hS (lv_sub hl [0, 1] rfl)
theorem k_X7_one {p : Program} {l : Launch} {e : Env} {R : Room} {s : State} {m : MethodId} {args : Array Value} {below : List Frame} {meth : Method} {c : Code} {H : Heap} {locs : List Loc} {Q : State → Prop} {cc : ByteArray} {pc : Nat} {ls : Array Slot} {rest : List Value} {own : String} {index nL : Nat} {A : Nat → Prop} {z : Cx} {r : Nat → Nat} {σ : XS} {a0 : Int32} (S : CallFix p m c cc nL s args tbG own) (hK : va_K z.1 vwCl (cxT z) s) (hA : ∀ q, s.heap.size ≤ q → A q) (hP : va_P z.1 vwCl (xW z r σ) H) (hD : va_D A (xW z r σ)) (hS : va_S A s.heap H locs) (hl : Cond.methodLink own index yX7_one ∈ tbG) (hR : 4 + 1 ≤ R.frames ∧ 8 + (6 + 11) + 89 ≤ R.locals) (hsz : ls.size = nL) (hcat : (rest.map fun v => v.category).sum ≤ 8) (hdg : decode cc pc = .ok (.invokevirtual index, 3)) (kk : ∀ (H : Heap) (locs : List Loc), va_P z.1 vwCl (xW z r (F_X7_one σ a0).2) H → va_D A (xW z r (F_X7_one σ a0).2) → va_S A s.heap H locs → W p l e R s m args below meth c H locs 0 0 Q (F0 m (pc + 3) ls (.int (zB (F_X7_one σ a0).1) :: rest))) : W p l e R s m args below meth c H locs 0 0 Q (F0 m pc ls (.int a0 :: .ref (r 9) :: rest)) :=
  km (As := [.int a0]) (ov := some (.int (zB (F_X7_one σ a0).1))) (w' := xW z r (F_X7_one σ a0).2) (q0 := 9) (ci := 6) S hK hA hP hD hS (c_X7_one l z r σ a0 H.size _ rfl) ⟨tb_cB 1 S.2.2.2.2 tc_X7_one ti_X7 hl rfl rfl (by decide +kernel) hR, S.2.2.2.2 _ tm_X7_one, S.2.2.2.2 _ te_X7_one⟩ rfl rfl rfl rfl hsz rfl hcat hdg kk

theorem dJ13_compare_74951_0 : decode cJ13_compare_74951 0 = .ok (.lload_n 0, 1) := by decide +kernel
theorem dJ13_compare_74951_1 : decode cJ13_compare_74951 1 = .ok (.lload_n 2, 1) := by decide +kernel
theorem dJ13_compare_74951_2 : decode cJ13_compare_74951 2 = .ok (.lcmp, 1) := by decide +kernel
theorem dJ13_compare_74951_3 : decode cJ13_compare_74951 3 = .ok (.ifCond .ge 7, 3) := by decide +kernel
theorem dJ13_compare_74951_6 : decode cJ13_compare_74951 6 = .ok (.iconst (-1), 1) := by decide +kernel
theorem dJ13_compare_74951_7 : decode cJ13_compare_74951 7 = .ok (.goto 14, 3) := by decide +kernel
theorem dJ13_compare_74951_10 : decode cJ13_compare_74951 10 = .ok (.lload_n 0, 1) := by decide +kernel
theorem dJ13_compare_74951_11 : decode cJ13_compare_74951 11 = .ok (.lload_n 2, 1) := by decide +kernel
theorem dJ13_compare_74951_12 : decode cJ13_compare_74951 12 = .ok (.lcmp, 1) := by decide +kernel
theorem dJ13_compare_74951_13 : decode cJ13_compare_74951 13 = .ok (.ifCond .ne 7, 3) := by decide +kernel
theorem dJ13_compare_74951_16 : decode cJ13_compare_74951 16 = .ok (.iconst 0, 1) := by decide +kernel
theorem dJ13_compare_74951_17 : decode cJ13_compare_74951 17 = .ok (.goto 4, 3) := by decide +kernel
theorem dJ13_compare_74951_20 : decode cJ13_compare_74951 20 = .ok (.iconst 1, 1) := by decide +kernel
theorem dJ13_compare_74951_21 : decode cJ13_compare_74951 21 = .ok (.ireturn, 1) := by decide +kernel
def F_J13_compare_74951 (a0 : Int64) (a1 : Int64) : Int32 := (if a1 ≤ a0 then (if a0 = a1 then (0 : Int32) else (1 : Int32)) else (-1 : Int32))
set_option maxHeartbeats 4000000 in
set_option maxRecDepth 100000 in
theorem c_J13_compare_74951 (l : Launch) (a0 : Int64) (a1 : Int64) (res : Int32) (hf : F_J13_compare_74951 a0 a1 = res) : Met l yJ13_compare_74951 (wsC yJ13_compare_74951 cJ13_compare_74951 4 (some .int)) { frames := 0, cells := 0, slots := 0, locals := 0 } (fun v _ => v = ([.long a0, .long a1] : List Value).toArray) (gS (some (.int res))) 0 0 (fun _ => False) := by
  refine mk_s_i (own := RJ13) (by decide) rfl _ (Nat.le_of_ble_eq_true rfl) (fun p e s m below meth c H locs Q ls S hl hend => ?_)
  have hx := S.1
  have hb := S.2.1
  have hown := S.2.2.2.1
  have hts := S.2.2.2.2
  have hl : lv_has ls 4 [(0, .long a0), (2, .long a1)] := hl
  unfold F_J13_compare_74951 at hf
  refine lv_lload_n hx hb dJ13_compare_74951_0 rfl (lv_at hl 0 rfl) ?_
  refine lv_lload_n hx hb dJ13_compare_74951_1 rfl (lv_at hl 1 rfl) ?_
  refine gl_ge (tgt := 10) hx hb dJ13_compare_74951_2 dJ13_compare_74951_3 (by decide) (fun c_2 => ?_) (fun c_2 => ?_)
  · rw [if_pos c_2] at hf
    refine lv_lload_n hx hb dJ13_compare_74951_10 rfl (lv_at hl 0 rfl) ?_
    refine lv_lload_n hx hb dJ13_compare_74951_11 rfl (lv_at hl 1 rfl) ?_
    refine gl_ne (tgt := 20) hx hb dJ13_compare_74951_12 dJ13_compare_74951_13 (by decide) (fun c_12 => ?_) (fun c_12 => ?_)
    · rw [if_neg c_12] at hf
      refine lv_iconst (v := 1) hx hb dJ13_compare_74951_20 (by decide) ?_
      exact hend (1 : Int32) 21 ls hf dJ13_compare_74951_21
    · rw [if_pos c_12] at hf
      refine lv_iconst (v := 0) hx hb dJ13_compare_74951_16 (by decide) ?_
      refine lv_goto (tgt := 21) hx hb dJ13_compare_74951_17 (by decide) ?_
      exact hend (0 : Int32) 21 ls hf dJ13_compare_74951_21
  · rw [if_neg c_2] at hf
    refine lv_iconst (v := -1) hx hb dJ13_compare_74951_6 (by decide) ?_
    refine lv_goto (tgt := 21) hx hb dJ13_compare_74951_7 (by decide) ?_
    exact hend (-1 : Int32) 21 ls hf dJ13_compare_74951_21
theorem k_J13_compare_74951 {p : Program} {l : Launch} {e : Env} {R : Room} {s : State} {m : MethodId} {args : Array Value} {below : List Frame} {meth : Method} {c : Code} {H : Heap} {locs : List Loc} {Q : State → Prop} {cc : ByteArray} {pc : Nat} {ls : Array Slot} {rest : List Value} {own : String} {index nL : Nat} {a0 : Int64} {a1 : Int64} (S : CallFix p m c cc nL s args tbG own) (hl : Cond.methodLink own index yJ13_compare_74951 ∈ tbG) (hR : 0 + 1 ≤ R.frames ∧ 8 + (4 + 11) + 0 ≤ R.locals) (hsz : ls.size = nL) (hcat : (rest.map fun v => v.category).sum ≤ 8) (hdg : decode cc pc = .ok (.invokestatic index, 3)) (kk : W p l e R s m args below meth c H locs 0 0 Q (F0 m (pc + 3) ls (.int (F_J13_compare_74951 a0 a1) :: rest))) : W p l e R s m args below meth c H locs 0 0 Q (F0 m pc ls (.long a1 :: .long a0 :: rest)) :=
  ks (As := [.long a0, .long a1]) (ov := some (.int (F_J13_compare_74951 a0 a1))) S (c_J13_compare_74951 l a0 a1 _ rfl) ⟨tb_cB 2 S.2.2.2.2 tc_J13_compare_74951 ti_J13 hl rfl rfl (by decide +kernel) hR, S.2.2.2.2 _ ts_J13_compare_74951⟩ rfl hsz rfl hcat hdg kk

theorem dJ13_compareUnsigned_74951_0 : decode cJ13_compareUnsigned_74951 0 = .ok (.lload_n 0, 1) := by decide +kernel
theorem dJ13_compareUnsigned_74951_1 : decode cJ13_compareUnsigned_74951 1 = .ok (.ldc2_w 168, 3) := by decide +kernel
theorem dJ13_compareUnsigned_74951_4 : decode cJ13_compareUnsigned_74951 4 = .ok (.ladd, 1) := by decide +kernel
theorem dJ13_compareUnsigned_74951_5 : decode cJ13_compareUnsigned_74951 5 = .ok (.lload_n 2, 1) := by decide +kernel
theorem dJ13_compareUnsigned_74951_6 : decode cJ13_compareUnsigned_74951 6 = .ok (.ldc2_w 168, 3) := by decide +kernel
theorem dJ13_compareUnsigned_74951_9 : decode cJ13_compareUnsigned_74951 9 = .ok (.ladd, 1) := by decide +kernel
theorem dJ13_compareUnsigned_74951_10 : decode cJ13_compareUnsigned_74951 10 = .ok (.invokestatic 302, 3) := by decide +kernel
theorem dJ13_compareUnsigned_74951_13 : decode cJ13_compareUnsigned_74951 13 = .ok (.ireturn, 1) := by decide +kernel
def F_J13_compareUnsigned_74951 (a0 : Int64) (a1 : Int64) : Int32 := (F_J13_compare_74951 (a0 + (-9223372036854775808 : Int64)) (a1 + (-9223372036854775808 : Int64)))
set_option maxHeartbeats 4000000 in
set_option maxRecDepth 100000 in
theorem c_J13_compareUnsigned_74951 (l : Launch) (a0 : Int64) (a1 : Int64) (res : Int32) (hf : F_J13_compareUnsigned_74951 a0 a1 = res) : Met l yJ13_compareUnsigned_74951 (wsC yJ13_compareUnsigned_74951 cJ13_compareUnsigned_74951 4 (some .int)) { frames := 1, cells := 0, slots := 0, locals := 23 } (fun v _ => v = ([.long a0, .long a1] : List Value).toArray) (gS (some (.int res))) 0 0 (fun _ => False) := by
  refine mk_s_i (own := RJ13) (by decide) rfl _ (Nat.le_of_ble_eq_true rfl) (fun p e s m below meth c H locs Q ls S hl hend => ?_)
  have hx := S.1
  have hb := S.2.1
  have hown := S.2.2.2.1
  have hts := S.2.2.2.2
  have hl : lv_has ls 4 [(0, .long a0), (2, .long a1)] := hl
  unfold F_J13_compareUnsigned_74951 at hf
  refine lv_lload_n hx hb dJ13_compareUnsigned_74951_0 rfl (lv_at hl 0 rfl) ?_
  refine lv_ldc2 (v := -9223372036854775808) hx hb hown (hts _ tk_J13_168) dJ13_compareUnsigned_74951_1 ?_
  refine lv_ladd hx hb dJ13_compareUnsigned_74951_4 ?_
  refine lv_lload_n hx hb dJ13_compareUnsigned_74951_5 rfl (lv_at hl 1 rfl) ?_
  refine lv_ldc2 (v := -9223372036854775808) hx hb hown (hts _ tk_J13_168) dJ13_compareUnsigned_74951_6 ?_
  refine lv_ladd hx hb dJ13_compareUnsigned_74951_9 ?_
  refine k_J13_compare_74951 (a0 := (a0 + (-9223372036854775808 : Int64))) (a1 := (a1 + (-9223372036854775808 : Int64))) S tl_J13_302 ⟨Nat.le_of_ble_eq_true rfl, Nat.le_of_ble_eq_true rfl⟩ hl.1 (Nat.le_of_ble_eq_true rfl) dJ13_compareUnsigned_74951_10 ?_
  exact hend (F_J13_compare_74951 (a0 + (-9223372036854775808 : Int64)) (a1 + (-9223372036854775808 : Int64))) 13 ls hf dJ13_compareUnsigned_74951_13
theorem k_J13_compareUnsigned_74951 {p : Program} {l : Launch} {e : Env} {R : Room} {s : State} {m : MethodId} {args : Array Value} {below : List Frame} {meth : Method} {c : Code} {H : Heap} {locs : List Loc} {Q : State → Prop} {cc : ByteArray} {pc : Nat} {ls : Array Slot} {rest : List Value} {own : String} {index nL : Nat} {a0 : Int64} {a1 : Int64} (S : CallFix p m c cc nL s args tbG own) (hl : Cond.methodLink own index yJ13_compareUnsigned_74951 ∈ tbG) (hR : 1 + 1 ≤ R.frames ∧ 8 + (4 + 11) + 23 ≤ R.locals) (hsz : ls.size = nL) (hcat : (rest.map fun v => v.category).sum ≤ 8) (hdg : decode cc pc = .ok (.invokestatic index, 3)) (kk : W p l e R s m args below meth c H locs 0 0 Q (F0 m (pc + 3) ls (.int (F_J13_compareUnsigned_74951 a0 a1) :: rest))) : W p l e R s m args below meth c H locs 0 0 Q (F0 m pc ls (.long a1 :: .long a0 :: rest)) :=
  ks (As := [.long a0, .long a1]) (ov := some (.int (F_J13_compareUnsigned_74951 a0 a1))) S (c_J13_compareUnsigned_74951 l a0 a1 _ rfl) ⟨tb_cB 2 S.2.2.2.2 tc_J13_compareUnsigned_74951 ti_J13 hl rfl rfl (by decide +kernel) hR, S.2.2.2.2 _ ts_J13_compareUnsigned_74951⟩ rfl hsz rfl hcat hdg kk

theorem dX7_quotient_0 : decode cX7_quotient 0 = .ok (.lload_n 2, 1) := by decide +kernel
theorem dX7_quotient_1 : decode cX7_quotient 1 = .ok (.lconst 0, 1) := by decide +kernel
theorem dX7_quotient_2 : decode cX7_quotient 2 = .ok (.lcmp, 1) := by decide +kernel
theorem dX7_quotient_3 : decode cX7_quotient 3 = .ok (.ifCond .ne 5, 3) := by decide +kernel
theorem dX7_quotient_6 : decode cX7_quotient 6 = .ok (.lconst 0, 1) := by decide +kernel
theorem dX7_quotient_7 : decode cX7_quotient 7 = .ok (.lreturn, 1) := by decide +kernel
theorem dX7_quotient_8 : decode cX7_quotient 8 = .ok (.lload_n 2, 1) := by decide +kernel
theorem dX7_quotient_9 : decode cX7_quotient 9 = .ok (.lconst 0, 1) := by decide +kernel
theorem dX7_quotient_10 : decode cX7_quotient 10 = .ok (.lcmp, 1) := by decide +kernel
theorem dX7_quotient_11 : decode cX7_quotient 11 = .ok (.ifCond .ge 17, 3) := by decide +kernel
theorem dX7_quotient_14 : decode cX7_quotient 14 = .ok (.lload_n 0, 1) := by decide +kernel
theorem dX7_quotient_15 : decode cX7_quotient 15 = .ok (.lload_n 2, 1) := by decide +kernel
theorem dX7_quotient_16 : decode cX7_quotient 16 = .ok (.invokestatic 91, 3) := by decide +kernel
theorem dX7_quotient_19 : decode cX7_quotient 19 = .ok (.ifCond .ge 7, 3) := by decide +kernel
theorem dX7_quotient_22 : decode cX7_quotient 22 = .ok (.lconst 0, 1) := by decide +kernel
theorem dX7_quotient_23 : decode cX7_quotient 23 = .ok (.goto 4, 3) := by decide +kernel
theorem dX7_quotient_26 : decode cX7_quotient 26 = .ok (.lconst 1, 1) := by decide +kernel
theorem dX7_quotient_27 : decode cX7_quotient 27 = .ok (.lreturn, 1) := by decide +kernel
theorem dX7_quotient_28 : decode cX7_quotient 28 = .ok (.lload_n 0, 1) := by decide +kernel
theorem dX7_quotient_29 : decode cX7_quotient 29 = .ok (.iconst 1, 1) := by decide +kernel
theorem dX7_quotient_30 : decode cX7_quotient 30 = .ok (.lushr, 1) := by decide +kernel
theorem dX7_quotient_31 : decode cX7_quotient 31 = .ok (.lload_n 2, 1) := by decide +kernel
theorem dX7_quotient_32 : decode cX7_quotient 32 = .ok (.ldiv, 1) := by decide +kernel
theorem dX7_quotient_33 : decode cX7_quotient 33 = .ok (.iconst 1, 1) := by decide +kernel
theorem dX7_quotient_34 : decode cX7_quotient 34 = .ok (.lshl, 1) := by decide +kernel
theorem dX7_quotient_35 : decode cX7_quotient 35 = .ok (.lstore 4, 2) := by decide +kernel
theorem dX7_quotient_37 : decode cX7_quotient 37 = .ok (.lload_n 0, 1) := by decide +kernel
theorem dX7_quotient_38 : decode cX7_quotient 38 = .ok (.lload 4, 2) := by decide +kernel
theorem dX7_quotient_40 : decode cX7_quotient 40 = .ok (.lload_n 2, 1) := by decide +kernel
theorem dX7_quotient_41 : decode cX7_quotient 41 = .ok (.lmul, 1) := by decide +kernel
theorem dX7_quotient_42 : decode cX7_quotient 42 = .ok (.lsub, 1) := by decide +kernel
theorem dX7_quotient_43 : decode cX7_quotient 43 = .ok (.lstore 6, 2) := by decide +kernel
theorem dX7_quotient_45 : decode cX7_quotient 45 = .ok (.lload 6, 2) := by decide +kernel
theorem dX7_quotient_47 : decode cX7_quotient 47 = .ok (.lload_n 2, 1) := by decide +kernel
theorem dX7_quotient_48 : decode cX7_quotient 48 = .ok (.invokestatic 91, 3) := by decide +kernel
theorem dX7_quotient_51 : decode cX7_quotient 51 = .ok (.ifCond .ge 8, 3) := by decide +kernel
theorem dX7_quotient_54 : decode cX7_quotient 54 = .ok (.lload 4, 2) := by decide +kernel
theorem dX7_quotient_56 : decode cX7_quotient 56 = .ok (.goto 7, 3) := by decide +kernel
theorem dX7_quotient_59 : decode cX7_quotient 59 = .ok (.lload 4, 2) := by decide +kernel
theorem dX7_quotient_61 : decode cX7_quotient 61 = .ok (.lconst 1, 1) := by decide +kernel
theorem dX7_quotient_62 : decode cX7_quotient 62 = .ok (.ladd, 1) := by decide +kernel
theorem dX7_quotient_63 : decode cX7_quotient 63 = .ok (.lreturn, 1) := by decide +kernel
def F_X7_quotient_c37 (a0 : Int64) (a1 : Int64) (w4 : Int64) : Int64 := (if 0 ≤ (F_J13_compareUnsigned_74951 (a0 - (w4 * a1)) a1) then (w4 + (1 : Int64)) else w4)
def F_X7_quotient (a0 : Int64) (a1 : Int64) : Int64 := (if a1 = (0 : Int64) then (0 : Int64) else (if (0 : Int64) ≤ a1 then (F_X7_quotient_c37 a0 a1 (j_lshl ((j_lushr a0 (1 : Int32)) / a1) (1 : Int32))) else (if 0 ≤ (F_J13_compareUnsigned_74951 a0 a1) then (1 : Int64) else (0 : Int64))))
set_option maxHeartbeats 4000000 in
set_option maxRecDepth 100000 in
theorem c_X7_quotient (l : Launch) (a0 : Int64) (a1 : Int64) (res : Int64) (hf : F_X7_quotient a0 a1 = res) : Met l yX7_quotient (wsC yX7_quotient cX7_quotient 8 (some .long)) { frames := 2, cells := 0, slots := 0, locals := 46 } (fun v _ => v = ([.long a0, .long a1] : List Value).toArray) (gS (some (.long res))) 0 0 (fun _ => False) := by
  refine mk_s_l (own := RX7) (by decide) rfl _ (Nat.le_of_ble_eq_true rfl) (fun p e s m below meth c H locs Q ls S hl hend => ?_)
  have hx := S.1
  have hb := S.2.1
  have hown := S.2.2.2.1
  have hts := S.2.2.2.2
  have hl : lv_has ls 8 [(0, .long a0), (2, .long a1)] := hl
  have J_c37 : ∀ (w4 : Int64) (ls : Array Slot), F_X7_quotient_c37 a0 a1 w4 = res → lv_has ls 8 [(0, .long a0), (2, .long a1), (4, .long w4)] → W p l e { frames := 2, cells := 0, slots := 0, locals := 46 } s m ([.long a0, .long a1] : List Value).toArray below meth c H locs 0 0 Q (F0 m 37 ls []) := by
    intro w4 ls hf hl
    unfold F_X7_quotient_c37 at hf
    refine lv_lload_n hx hb dX7_quotient_37 rfl (lv_at hl 0 rfl) ?_
    refine lv_lload hx hb dX7_quotient_38 (lv_at hl 2 rfl) ?_
    refine lv_lload_n hx hb dX7_quotient_40 rfl (lv_at hl 1 rfl) ?_
    refine lv_lmul hx hb dX7_quotient_41 ?_
    refine lv_lsub hx hb dX7_quotient_42 ?_
    refine lv_lstore (lv' := [(6, .long (a0 - (w4 * a1))), (0, .long a0), (2, .long a1), (4, .long w4)]) hx hb dX7_quotient_43 hl (by decide) rfl (fun ls hl => ?_)
    refine lv_lload hx hb dX7_quotient_45 (lv_at hl 0 rfl) ?_
    refine lv_lload_n hx hb dX7_quotient_47 rfl (lv_at hl 2 rfl) ?_
    refine k_J13_compareUnsigned_74951 (a0 := (a0 - (w4 * a1))) (a1 := a1) S tl_X7_91 ⟨Nat.le_of_ble_eq_true rfl, Nat.le_of_ble_eq_true rfl⟩ hl.1 (Nat.le_of_ble_eq_true rfl) dX7_quotient_48 ?_
    refine lv_if_ge (tgt := 59) hx hb dX7_quotient_51 (by decide) (fun c_51 => ?_) (fun c_51 => ?_)
    · rw [if_pos c_51] at hf
      refine lv_lload hx hb dX7_quotient_59 (lv_at hl 3 rfl) ?_
      refine lv_lconst (v := 1) hx hb dX7_quotient_61 (by decide) ?_
      refine lv_ladd hx hb dX7_quotient_62 ?_
      exact hend (w4 + (1 : Int64)) 63 ls hf dX7_quotient_63
    · rw [if_neg c_51] at hf
      refine lv_lload hx hb dX7_quotient_54 (lv_at hl 3 rfl) ?_
      refine lv_goto (tgt := 63) hx hb dX7_quotient_56 (by decide) ?_
      exact hend w4 63 ls hf dX7_quotient_63
  unfold F_X7_quotient at hf
  refine lv_lload_n hx hb dX7_quotient_0 rfl (lv_at hl 1 rfl) ?_
  refine lv_lconst (v := 0) hx hb dX7_quotient_1 (by decide) ?_
  refine gl_ne (tgt := 8) hx hb dX7_quotient_2 dX7_quotient_3 (by decide) (fun c_2 => ?_) (fun c_2 => ?_)
  · rw [if_neg c_2] at hf
    refine lv_lload_n hx hb dX7_quotient_8 rfl (lv_at hl 1 rfl) ?_
    refine lv_lconst (v := 0) hx hb dX7_quotient_9 (by decide) ?_
    refine gl_ge (tgt := 28) hx hb dX7_quotient_10 dX7_quotient_11 (by decide) (fun c_10 => ?_) (fun c_10 => ?_)
    · rw [if_pos c_10] at hf
      refine lv_lload_n hx hb dX7_quotient_28 rfl (lv_at hl 0 rfl) ?_
      refine lv_iconst (v := 1) hx hb dX7_quotient_29 (by decide) ?_
      refine lv_lushr (v := (j_lushr a0 (1 : Int32))) hx hb dX7_quotient_30 rfl ?_
      refine lv_lload_n hx hb dX7_quotient_31 rfl (lv_at hl 1 rfl) ?_
      refine lv_ldiv hx hb dX7_quotient_32 (c_2) ?_
      refine lv_iconst (v := 1) hx hb dX7_quotient_33 (by decide) ?_
      refine lv_lshl (v := (j_lshl ((j_lushr a0 (1 : Int32)) / a1) (1 : Int32))) hx hb dX7_quotient_34 rfl ?_
      refine lv_lstore (lv' := [(4, .long (j_lshl ((j_lushr a0 (1 : Int32)) / a1) (1 : Int32))), (0, .long a0), (2, .long a1)]) hx hb dX7_quotient_35 hl (by decide) rfl (fun ls hl => ?_)
      exact J_c37 (j_lshl ((j_lushr a0 (1 : Int32)) / a1) (1 : Int32)) ls hf (lv_sub hl [1, 2, 0] rfl)
    · rw [if_neg c_10] at hf
      refine lv_lload_n hx hb dX7_quotient_14 rfl (lv_at hl 0 rfl) ?_
      refine lv_lload_n hx hb dX7_quotient_15 rfl (lv_at hl 1 rfl) ?_
      refine k_J13_compareUnsigned_74951 (a0 := a0) (a1 := a1) S tl_X7_91 ⟨Nat.le_of_ble_eq_true rfl, Nat.le_of_ble_eq_true rfl⟩ hl.1 (Nat.le_of_ble_eq_true rfl) dX7_quotient_16 ?_
      refine lv_if_ge (tgt := 26) hx hb dX7_quotient_19 (by decide) (fun c_19 => ?_) (fun c_19 => ?_)
      · rw [if_pos c_19] at hf
        refine lv_lconst (v := 1) hx hb dX7_quotient_26 (by decide) ?_
        exact hend (1 : Int64) 27 ls hf dX7_quotient_27
      · rw [if_neg c_19] at hf
        refine lv_lconst (v := 0) hx hb dX7_quotient_22 (by decide) ?_
        refine lv_goto (tgt := 27) hx hb dX7_quotient_23 (by decide) ?_
        exact hend (0 : Int64) 27 ls hf dX7_quotient_27
  · rw [if_pos c_2] at hf
    refine lv_lconst (v := 0) hx hb dX7_quotient_6 (by decide) ?_
    exact hend (0 : Int64) 7 ls hf dX7_quotient_7
theorem k_X7_quotient {p : Program} {l : Launch} {e : Env} {R : Room} {s : State} {m : MethodId} {args : Array Value} {below : List Frame} {meth : Method} {c : Code} {H : Heap} {locs : List Loc} {Q : State → Prop} {cc : ByteArray} {pc : Nat} {ls : Array Slot} {rest : List Value} {own : String} {index nL : Nat} {a0 : Int64} {a1 : Int64} (S : CallFix p m c cc nL s args tbG own) (hl : Cond.methodLink own index yX7_quotient ∈ tbG) (hR : 2 + 1 ≤ R.frames ∧ 8 + (8 + 11) + 46 ≤ R.locals) (hsz : ls.size = nL) (hcat : (rest.map fun v => v.category).sum ≤ 8) (hdg : decode cc pc = .ok (.invokestatic index, 3)) (kk : W p l e R s m args below meth c H locs 0 0 Q (F0 m (pc + 3) ls (.long (F_X7_quotient a0 a1) :: rest))) : W p l e R s m args below meth c H locs 0 0 Q (F0 m pc ls (.long a1 :: .long a0 :: rest)) :=
  ks (As := [.long a0, .long a1]) (ov := some (.long (F_X7_quotient a0 a1))) S (c_X7_quotient l a0 a1 _ rfl) ⟨tb_cB 2 S.2.2.2.2 tc_X7_quotient ti_X7 hl rfl rfl (by decide +kernel) hR, S.2.2.2.2 _ ts_X7_quotient⟩ rfl hsz rfl hcat hdg kk

theorem dX7_signedQuotient_0 : decode cX7_signedQuotient 0 = .ok (.iload 4, 2) := by decide +kernel
theorem dX7_signedQuotient_2 : decode cX7_signedQuotient 2 = .ok (.ifCond .eq 7, 3) := by decide +kernel
theorem dX7_signedQuotient_5 : decode cX7_signedQuotient 5 = .ok (.lload_n 0, 1) := by decide +kernel
theorem dX7_signedQuotient_6 : decode cX7_signedQuotient 6 = .ok (.goto 6, 3) := by decide +kernel
theorem dX7_signedQuotient_9 : decode cX7_signedQuotient 9 = .ok (.lload_n 0, 1) := by decide +kernel
theorem dX7_signedQuotient_10 : decode cX7_signedQuotient 10 = .ok (.l2i, 1) := by decide +kernel
theorem dX7_signedQuotient_11 : decode cX7_signedQuotient 11 = .ok (.i2l, 1) := by decide +kernel
theorem dX7_signedQuotient_12 : decode cX7_signedQuotient 12 = .ok (.lstore 5, 2) := by decide +kernel
theorem dX7_signedQuotient_14 : decode cX7_signedQuotient 14 = .ok (.iload 4, 2) := by decide +kernel
theorem dX7_signedQuotient_16 : decode cX7_signedQuotient 16 = .ok (.ifCond .eq 7, 3) := by decide +kernel
theorem dX7_signedQuotient_19 : decode cX7_signedQuotient 19 = .ok (.lload_n 2, 1) := by decide +kernel
theorem dX7_signedQuotient_20 : decode cX7_signedQuotient 20 = .ok (.goto 6, 3) := by decide +kernel
theorem dX7_signedQuotient_23 : decode cX7_signedQuotient 23 = .ok (.lload_n 2, 1) := by decide +kernel
theorem dX7_signedQuotient_24 : decode cX7_signedQuotient 24 = .ok (.l2i, 1) := by decide +kernel
theorem dX7_signedQuotient_25 : decode cX7_signedQuotient 25 = .ok (.i2l, 1) := by decide +kernel
theorem dX7_signedQuotient_26 : decode cX7_signedQuotient 26 = .ok (.lstore 7, 2) := by decide +kernel
theorem dX7_signedQuotient_28 : decode cX7_signedQuotient 28 = .ok (.lload 7, 2) := by decide +kernel
theorem dX7_signedQuotient_30 : decode cX7_signedQuotient 30 = .ok (.lconst 0, 1) := by decide +kernel
theorem dX7_signedQuotient_31 : decode cX7_signedQuotient 31 = .ok (.lcmp, 1) := by decide +kernel
theorem dX7_signedQuotient_32 : decode cX7_signedQuotient 32 = .ok (.ifCond .ne 7, 3) := by decide +kernel
theorem dX7_signedQuotient_35 : decode cX7_signedQuotient 35 = .ok (.lconst 0, 1) := by decide +kernel
theorem dX7_signedQuotient_36 : decode cX7_signedQuotient 36 = .ok (.goto 8, 3) := by decide +kernel
theorem dX7_signedQuotient_39 : decode cX7_signedQuotient 39 = .ok (.lload 5, 2) := by decide +kernel
theorem dX7_signedQuotient_41 : decode cX7_signedQuotient 41 = .ok (.lload 7, 2) := by decide +kernel
theorem dX7_signedQuotient_43 : decode cX7_signedQuotient 43 = .ok (.ldiv, 1) := by decide +kernel
theorem dX7_signedQuotient_44 : decode cX7_signedQuotient 44 = .ok (.lreturn, 1) := by decide +kernel
def F_X7_signedQuotient_c26 (a0 : Int64) (a1 : Int64) (a2 : Bool) (w5 : Int64) (s0 : Int64) : Int64 := (if s0 = (0 : Int64) then (0 : Int64) else (w5 / s0))
def F_X7_signedQuotient_c12 (a0 : Int64) (a1 : Int64) (a2 : Bool) (s0 : Int64) : Int64 := (if a2 = true then (F_X7_signedQuotient_c26 a0 a1 a2 s0 a1) else (F_X7_signedQuotient_c26 a0 a1 a2 s0 a1.toInt32.toInt64))
def F_X7_signedQuotient (a0 : Int64) (a1 : Int64) (a2 : Bool) : Int64 := (if a2 = true then (F_X7_signedQuotient_c12 a0 a1 a2 a0) else (F_X7_signedQuotient_c12 a0 a1 a2 a0.toInt32.toInt64))
set_option maxHeartbeats 4000000 in
set_option maxRecDepth 100000 in
theorem c_X7_signedQuotient (l : Launch) (a0 : Int64) (a1 : Int64) (a2 : Bool) (res : Int64) (hf : F_X7_signedQuotient a0 a1 a2 = res) : Met l yX7_signedQuotient (wsC yX7_signedQuotient cX7_signedQuotient 9 (some .long)) { frames := 0, cells := 0, slots := 0, locals := 0 } (fun v _ => v = ([.long a0, .long a1, .int (zB a2)] : List Value).toArray) (gS (some (.long res))) 0 0 (fun _ => False) := by
  refine mk_s_l (own := RX7) (by decide) rfl _ (Nat.le_of_ble_eq_true rfl) (fun p e s m below meth c H locs Q ls S hl hend => ?_)
  have hx := S.1
  have hb := S.2.1
  have hown := S.2.2.2.1
  have hts := S.2.2.2.2
  have hl : lv_has ls 9 [(0, .long a0), (2, .long a1), (4, .int (zB a2))] := hl
  have J_c26 : ∀ (w5 : Int64) (s0 : Int64) (ls : Array Slot), F_X7_signedQuotient_c26 a0 a1 a2 w5 s0 = res → lv_has ls 9 [(5, .long w5)] → W p l e { frames := 0, cells := 0, slots := 0, locals := 0 } s m ([.long a0, .long a1, .int (zB a2)] : List Value).toArray below meth c H locs 0 0 Q (F0 m 26 ls [.long s0]) := by
    intro w5 s0 ls hf hl
    unfold F_X7_signedQuotient_c26 at hf
    refine lv_lstore (lv' := [(7, .long s0), (5, .long w5)]) hx hb dX7_signedQuotient_26 hl (by decide) rfl (fun ls hl => ?_)
    refine lv_lload hx hb dX7_signedQuotient_28 (lv_at hl 0 rfl) ?_
    refine lv_lconst (v := 0) hx hb dX7_signedQuotient_30 (by decide) ?_
    refine gl_ne (tgt := 39) hx hb dX7_signedQuotient_31 dX7_signedQuotient_32 (by decide) (fun c_31 => ?_) (fun c_31 => ?_)
    · rw [if_neg c_31] at hf
      refine lv_lload hx hb dX7_signedQuotient_39 (lv_at hl 1 rfl) ?_
      refine lv_lload hx hb dX7_signedQuotient_41 (lv_at hl 0 rfl) ?_
      refine lv_ldiv hx hb dX7_signedQuotient_43 (c_31) ?_
      exact hend (w5 / s0) 44 ls hf dX7_signedQuotient_44
    · rw [if_pos c_31] at hf
      refine lv_lconst (v := 0) hx hb dX7_signedQuotient_35 (by decide) ?_
      refine lv_goto (tgt := 44) hx hb dX7_signedQuotient_36 (by decide) ?_
      exact hend (0 : Int64) 44 ls hf dX7_signedQuotient_44
  have J_c12 : ∀ (s0 : Int64) (ls : Array Slot), F_X7_signedQuotient_c12 a0 a1 a2 s0 = res → lv_has ls 9 [(2, .long a1), (4, .int (zB a2))] → W p l e { frames := 0, cells := 0, slots := 0, locals := 0 } s m ([.long a0, .long a1, .int (zB a2)] : List Value).toArray below meth c H locs 0 0 Q (F0 m 12 ls [.long s0]) := by
    intro s0 ls hf hl
    unfold F_X7_signedQuotient_c12 at hf
    refine lv_lstore (lv' := [(5, .long s0), (2, .long a1), (4, .int (zB a2))]) hx hb dX7_signedQuotient_12 hl (by decide) rfl (fun ls hl => ?_)
    refine lv_iload hx hb dX7_signedQuotient_14 (lv_at hl 2 rfl) ?_
    refine gz_eq (tgt := 23) hx hb dX7_signedQuotient_16 (by decide) (fun c_16 => ?_) (fun c_16 => ?_)
    · rw [if_neg c_16] at hf
      refine lv_lload_n hx hb dX7_signedQuotient_23 rfl (lv_at hl 1 rfl) ?_
      refine lv_l2i hx hb dX7_signedQuotient_24 rfl ?_
      refine lv_i2l hx hb dX7_signedQuotient_25 rfl ?_
      exact J_c26 s0 a1.toInt32.toInt64 ls hf (lv_sub hl [0] rfl)
    · rw [if_pos c_16] at hf
      refine lv_lload_n hx hb dX7_signedQuotient_19 rfl (lv_at hl 1 rfl) ?_
      refine lv_goto (tgt := 26) hx hb dX7_signedQuotient_20 (by decide) ?_
      exact J_c26 s0 a1 ls hf (lv_sub hl [0] rfl)
  unfold F_X7_signedQuotient at hf
  refine lv_iload hx hb dX7_signedQuotient_0 (lv_at hl 2 rfl) ?_
  refine gz_eq (tgt := 9) hx hb dX7_signedQuotient_2 (by decide) (fun c_2 => ?_) (fun c_2 => ?_)
  · rw [if_neg c_2] at hf
    refine lv_lload_n hx hb dX7_signedQuotient_9 rfl (lv_at hl 0 rfl) ?_
    refine lv_l2i hx hb dX7_signedQuotient_10 rfl ?_
    refine lv_i2l hx hb dX7_signedQuotient_11 rfl ?_
    exact J_c12 a0.toInt32.toInt64 ls hf (lv_sub hl [1, 2] rfl)
  · rw [if_pos c_2] at hf
    refine lv_lload_n hx hb dX7_signedQuotient_5 rfl (lv_at hl 0 rfl) ?_
    refine lv_goto (tgt := 12) hx hb dX7_signedQuotient_6 (by decide) ?_
    exact J_c12 a0 ls hf (lv_sub hl [1, 2] rfl)
theorem k_X7_signedQuotient {p : Program} {l : Launch} {e : Env} {R : Room} {s : State} {m : MethodId} {args : Array Value} {below : List Frame} {meth : Method} {c : Code} {H : Heap} {locs : List Loc} {Q : State → Prop} {cc : ByteArray} {pc : Nat} {ls : Array Slot} {rest : List Value} {own : String} {index nL : Nat} {a0 : Int64} {a1 : Int64} {a2 : Bool} (S : CallFix p m c cc nL s args tbG own) (hl : Cond.methodLink own index yX7_signedQuotient ∈ tbG) (hR : 0 + 1 ≤ R.frames ∧ 8 + (9 + 11) + 0 ≤ R.locals) (hsz : ls.size = nL) (hcat : (rest.map fun v => v.category).sum ≤ 8) (hdg : decode cc pc = .ok (.invokestatic index, 3)) (kk : W p l e R s m args below meth c H locs 0 0 Q (F0 m (pc + 3) ls (.long (F_X7_signedQuotient a0 a1 a2) :: rest))) : W p l e R s m args below meth c H locs 0 0 Q (F0 m pc ls (.int (zB a2) :: .long a1 :: .long a0 :: rest)) :=
  ks (As := [.long a0, .long a1, .int (zB a2)]) (ov := some (.long (F_X7_signedQuotient a0 a1 a2))) S (c_X7_signedQuotient l a0 a1 a2 _ rfl) ⟨tb_cB 3 S.2.2.2.2 tc_X7_signedQuotient ti_X7 hl rfl rfl (by decide +kernel) hR, S.2.2.2.2 _ ts_X7_signedQuotient⟩ rfl hsz rfl hcat hdg kk

