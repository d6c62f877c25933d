theorem dX5_twice_0 : decode cX5_twice 0 = .ok (.iload_n 1, 1) := by decide +kernel
theorem dX5_twice_1 : decode cX5_twice 1 = .ok (.ifCond .ge 7, 3) := by decide +kernel
theorem dX5_twice_4 : decode cX5_twice 4 = .ok (.iconst 1, 1) := by decide +kernel
theorem dX5_twice_5 : decode cX5_twice 5 = .ok (.goto 4, 3) := by decide +kernel
theorem dX5_twice_8 : decode cX5_twice 8 = .ok (.iconst 0, 1) := by decide +kernel
theorem dX5_twice_9 : decode cX5_twice 9 = .ok (.istore_n 2, 1) := by decide +kernel
theorem dX5_twice_10 : decode cX5_twice 10 = .ok (.iload_n 1, 1) := by decide +kernel
theorem dX5_twice_11 : decode cX5_twice 11 = .ok (.bipush 10, 2) := by decide +kernel
theorem dX5_twice_13 : decode cX5_twice 13 = .ok (.bipush 6, 2) := by decide +kernel
theorem dX5_twice_15 : decode cX5_twice 15 = .ok (.invokestatic 23, 3) := by decide +kernel
theorem dX5_twice_18 : decode cX5_twice 18 = .ok (.istore_n 3, 1) := by decide +kernel
theorem dX5_twice_19 : decode cX5_twice 19 = .ok (.iload_n 1, 1) := by decide +kernel
theorem dX5_twice_20 : decode cX5_twice 20 = .ok (.bipush 29, 2) := by decide +kernel
theorem dX5_twice_22 : decode cX5_twice 22 = .ok (.iconst 2, 1) := by decide +kernel
theorem dX5_twice_23 : decode cX5_twice 23 = .ok (.invokestatic 23, 3) := by decide +kernel
theorem dX5_twice_26 : decode cX5_twice 26 = .ok (.ifCond .ne 30, 3) := by decide +kernel
theorem dX5_twice_29 : decode cX5_twice 29 = .ok (.iload_n 1, 1) := by decide +kernel
theorem dX5_twice_30 : decode cX5_twice 30 = .ok (.bipush 21, 2) := by decide +kernel
theorem dX5_twice_32 : decode cX5_twice 32 = .ok (.invokestatic 17, 3) := by decide +kernel
theorem dX5_twice_35 : decode cX5_twice 35 = .ok (.ifCond .ne 21, 3) := by decide +kernel
theorem dX5_twice_38 : decode cX5_twice 38 = .ok (.iload_n 1, 1) := by decide +kernel
theorem dX5_twice_39 : decode cX5_twice 39 = .ok (.bipush 22, 2) := by decide +kernel
theorem dX5_twice_41 : decode cX5_twice 41 = .ok (.invokestatic 17, 3) := by decide +kernel
theorem dX5_twice_44 : decode cX5_twice 44 = .ok (.iload_n 2, 1) := by decide +kernel
theorem dX5_twice_45 : decode cX5_twice 45 = .ok (.if_icmp .ne 11, 3) := by decide +kernel
theorem dX5_twice_48 : decode cX5_twice 48 = .ok (.iload_n 3, 1) := by decide +kernel
theorem dX5_twice_49 : decode cX5_twice 49 = .ok (.iload_n 2, 1) := by decide +kernel
theorem dX5_twice_50 : decode cX5_twice 50 = .ok (.invokestatic 65, 3) := by decide +kernel
theorem dX5_twice_53 : decode cX5_twice 53 = .ok (.if_icmp .lt 5, 3) := by decide +kernel
theorem dX5_twice_56 : decode cX5_twice 56 = .ok (.iconst 0, 1) := by decide +kernel
theorem dX5_twice_57 : decode cX5_twice 57 = .ok (.ireturn, 1) := by decide +kernel
theorem dX5_twice_58 : decode cX5_twice 58 = .ok (.aload_n 0, 1) := by decide +kernel
theorem dX5_twice_59 : decode cX5_twice 59 = .ok (.getfield 7, 3) := by decide +kernel
theorem dX5_twice_62 : decode cX5_twice 62 = .ok (.iload_n 1, 1) := by decide +kernel
theorem dX5_twice_63 : decode cX5_twice 63 = .ok (.iconst 5, 1) := by decide +kernel
theorem dX5_twice_64 : decode cX5_twice 64 = .ok (.iconst 5, 1) := by decide +kernel
theorem dX5_twice_65 : decode cX5_twice 65 = .ok (.invokestatic 23, 3) := by decide +kernel
theorem dX5_twice_68 : decode cX5_twice 68 = .ok (.invokevirtual 49, 3) := by decide +kernel
theorem dX5_twice_71 : decode cX5_twice 71 = .ok (.lstore 4, 2) := by decide +kernel
theorem dX5_twice_73 : decode cX5_twice 73 = .ok (.aload_n 0, 1) := by decide +kernel
theorem dX5_twice_74 : decode cX5_twice 74 = .ok (.getfield 7, 3) := by decide +kernel
theorem dX5_twice_77 : decode cX5_twice 77 = .ok (.iload_n 1, 1) := by decide +kernel
theorem dX5_twice_78 : decode cX5_twice 78 = .ok (.bipush 16, 2) := by decide +kernel
theorem dX5_twice_80 : decode cX5_twice 80 = .ok (.iconst 5, 1) := by decide +kernel
theorem dX5_twice_81 : decode cX5_twice 81 = .ok (.invokestatic 23, 3) := by decide +kernel
theorem dX5_twice_84 : decode cX5_twice 84 = .ok (.invokevirtual 49, 3) := by decide +kernel
theorem dX5_twice_87 : decode cX5_twice 87 = .ok (.iload_n 2, 1) := by decide +kernel
theorem dX5_twice_88 : decode cX5_twice 88 = .ok (.invokestatic 73, 3) := by decide +kernel
theorem dX5_twice_91 : decode cX5_twice 91 = .ok (.lstore 6, 2) := by decide +kernel
theorem dX5_twice_93 : decode cX5_twice 93 = .ok (.lload 6, 2) := by decide +kernel
theorem dX5_twice_95 : decode cX5_twice 95 = .ok (.iload_n 3, 1) := by decide +kernel
theorem dX5_twice_96 : decode cX5_twice 96 = .ok (.lushr, 1) := by decide +kernel
theorem dX5_twice_97 : decode cX5_twice 97 = .ok (.lstore 8, 2) := by decide +kernel
theorem dX5_twice_99 : decode cX5_twice 99 = .ok (.iload_n 3, 1) := by decide +kernel
theorem dX5_twice_100 : decode cX5_twice 100 = .ok (.ifCond .le 17, 3) := by decide +kernel
theorem dX5_twice_103 : decode cX5_twice 103 = .ok (.lload 8, 2) := by decide +kernel
theorem dX5_twice_105 : decode cX5_twice 105 = .ok (.lload 4, 2) := by decide +kernel
theorem dX5_twice_107 : decode cX5_twice 107 = .ok (.iload_n 2, 1) := by decide +kernel
theorem dX5_twice_108 : decode cX5_twice 108 = .ok (.invokestatic 65, 3) := by decide +kernel
theorem dX5_twice_111 : decode cX5_twice 111 = .ok (.iload_n 3, 1) := by decide +kernel
theorem dX5_twice_112 : decode cX5_twice 112 = .ok (.isub, 1) := by decide +kernel
theorem dX5_twice_113 : decode cX5_twice 113 = .ok (.lshl, 1) := by decide +kernel
theorem dX5_twice_114 : decode cX5_twice 114 = .ok (.lor, 1) := by decide +kernel
theorem dX5_twice_115 : decode cX5_twice 115 = .ok (.lstore 8, 2) := by decide +kernel
theorem dX5_twice_117 : decode cX5_twice 117 = .ok (.aload_n 0, 1) := by decide +kernel
theorem dX5_twice_118 : decode cX5_twice 118 = .ok (.getfield 7, 3) := by decide +kernel
theorem dX5_twice_121 : decode cX5_twice 121 = .ok (.iload_n 1, 1) := by decide +kernel
theorem dX5_twice_122 : decode cX5_twice 122 = .ok (.iconst 0, 1) := by decide +kernel
theorem dX5_twice_123 : decode cX5_twice 123 = .ok (.iconst 5, 1) := by decide +kernel
theorem dX5_twice_124 : decode cX5_twice 124 = .ok (.invokestatic 23, 3) := by decide +kernel
theorem dX5_twice_127 : decode cX5_twice 127 = .ok (.lload 8, 2) := by decide +kernel
theorem dX5_twice_129 : decode cX5_twice 129 = .ok (.iload_n 2, 1) := by decide +kernel
theorem dX5_twice_130 : decode cX5_twice 130 = .ok (.invokestatic 73, 3) := by decide +kernel
theorem dX5_twice_133 : decode cX5_twice 133 = .ok (.invokevirtual 39, 3) := by decide +kernel
theorem dX5_twice_136 : decode cX5_twice 136 = .ok (.iconst 1, 1) := by decide +kernel
theorem dX5_twice_137 : decode cX5_twice 137 = .ok (.ireturn, 1) := by decide +kernel
def F_X5_twice_c136 (τ : XS) (a0 : Int32) : Bool × XS := (true, τ)
def F_X5_twice_c117 (τ : XS) (a0 : Int32) (w2 : Bool) (w8 : Int64) : Bool × XS := (F_X5_twice_c136 (F_X8_putRegister τ (F_X1_field a0 (0 : Int32) (5 : Int32)) (F_X1_narrow w8 w2)) a0)
def F_X5_twice_c99 (τ : XS) (a0 : Int32) (w2 : Bool) (w3 : Int32) (w4 : Int64) (w8 : Int64) : Bool × XS := (if w3 ≤ 0 then (F_X5_twice_c117 τ a0 w2 w8) else (F_X5_twice_c117 τ a0 w2 (w8 ||| (j_lshl w4 ((F_X1_width w2) - w3)))))
def F_X5_twice_c19 (τ : XS) (a0 : Int32) (w2 : Bool) (w3 : Int32) : Bool × XS := (if (F_X1_field a0 (29 : Int32) (2 : Int32)) = 0 then (if (F_X1_isOne a0 (21 : Int32)) = true then (false, τ) else (if (F_X1_isOne a0 (22 : Int32)) = w2 then (if w3 < (F_X1_width w2) then (F_X5_twice_c99 τ a0 w2 w3 (F_X8_register τ (F_X1_field a0 (5 : Int32) (5 : Int32))) (j_lushr (F_X1_narrow (F_X8_register τ (F_X1_field a0 (16 : Int32) (5 : Int32))) w2) w3)) else (false, τ)) else (false, τ))) else (false, τ))
def F_X5_twice_c9 (τ : XS) (a0 : Int32) (s0 : Bool) : Bool × XS := (F_X5_twice_c19 τ a0 s0 (F_X1_field a0 (10 : Int32) (6 : Int32)))
def F_X5_twice (σ : XS) (a0 : Int32) : Bool × XS := (if 0 ≤ a0 then (F_X5_twice_c9 σ a0 false) else (F_X5_twice_c9 σ a0 true))
set_option maxHeartbeats 4000000 in
set_option maxRecDepth 100000 in
theorem c_X5_twice (l : Launch) (z : Cx) (r : Nat → Nat) (σ : XS) (a0 : Int32) (sz : Nat) (res : Bool × XS) (hf : F_X5_twice σ a0 = res) : Met l yX5_twice (wsC yX5_twice cX5_twice 10 (some .boolean)) { frames := 2, cells := 0, slots := 0, locals := 46 } (mPc z (xW z r σ) sz [.ref (r 8), .int a0]) (gM z (va_A (xW z r σ) sz) (some (.int (zB res.1))) (xW z r res.2)) 0 0 (va_A (xW z r σ) sz) := by
  refine mk_m_z (own := RX5) (wf := xW z r) (by decide) rfl sz _ (Nat.le_of_ble_eq_true rfl) (fun p e s m below meth c A H locs Q ls S hK hA hP hD hS hl hend => ?_)
  have hx := S.1
  have hb := S.2.1
  have hown := S.2.2.2.1
  have hts := S.2.2.2.2
  have hl : lv_has ls 10 [(0, .ref (r 8)), (1, .int a0)] := hl
  have J_c136 : ∀ (τ : XS) (H : Heap) (locs : List Loc) (ls : Array Slot), F_X5_twice_c136 τ a0 = res → va_P z.1 vwCl (xW z r τ) H → va_D A (xW z r τ) → va_S A s.heap H locs → lv_has ls 10 [] → W p l e { frames := 2, cells := 0, slots := 0, locals := 46 } s m ([.ref (r 8), .int a0] : List Value).toArray below meth c H locs 0 0 Q (F0 m 136 ls []) := by
    intro τ H locs ls hf hP hD hS hl
    unfold F_X5_twice_c136 at hf
    refine lv_iconst (v := 1) hx hb dX5_twice_136 (by decide) ?_
    exact hend true τ H locs 137 ls hf hP hD hS dX5_twice_137
  have J_c117 : ∀ (τ : XS) (w2 : Bool) (w8 : Int64) (H : Heap) (locs : List Loc) (ls : Array Slot), F_X5_twice_c117 τ a0 w2 w8 = res → va_P z.1 vwCl (xW z r τ) H → va_D A (xW z r τ) → va_S A s.heap H locs → lv_has ls 10 [(0, .ref (r 8)), (1, .int a0), (2, .int (zB w2)), (8, .long w8)] → W p l e { frames := 2, cells := 0, slots := 0, locals := 46 } s m ([.ref (r 8), .int a0] : List Value).toArray below meth c H locs 0 0 Q (F0 m 117 ls []) := by
    intro τ w2 w8 H locs ls hf hP hD hS hl
    unfold F_X5_twice_c117 at hf
    refine lv_aload_n hx hb dX5_twice_117 rfl (lv_at hl 0 rfl) ?_
    refine fg_X5_state S hK hP tf_X5_7 dX5_twice_118 ?_
    refine lv_iload_n hx hb dX5_twice_121 rfl (lv_at hl 1 rfl) ?_
    refine lv_iconst (v := 0) hx hb dX5_twice_122 (by decide) ?_
    refine lv_iconst (v := 5) hx hb dX5_twice_123 (by decide) ?_
    refine k_X1_field (a0 := a0) (a1 := (0 : Int32)) (a2 := (5 : Int32)) S tl_X5_23 ⟨Nat.le_of_ble_eq_true rfl, Nat.le_of_ble_eq_true rfl⟩ hl.1 (Nat.le_of_ble_eq_true rfl) dX5_twice_124 ?_
    refine lv_lload hx hb dX5_twice_127 (lv_at hl 3 rfl) ?_
    refine lv_iload_n hx hb dX5_twice_129 rfl (lv_at hl 2 rfl) ?_
    refine k_X1_narrow (a0 := w8) (a1 := w2) S tl_X5_73 ⟨Nat.le_of_ble_eq_true rfl, Nat.le_of_ble_eq_true rfl⟩ hl.1 (Nat.le_of_ble_eq_true rfl) dX5_twice_130 ?_
    refine k_X8_putRegister (a0 := (F_X1_field a0 (0 : Int32) (5 : Int32))) (a1 := (F_X1_narrow w8 w2)) S hK hA hP hD hS tl_X5_39 ⟨Nat.le_of_ble_eq_true rfl, Nat.le_of_ble_eq_true rfl⟩ hl.1 (Nat.le_of_ble_eq_true rfl) dX5_twice_133 (fun H locs hP hD hS => ?_)
    exact J_c136 (F_X8_putRegister τ (F_X1_field a0 (0 : Int32) (5 : Int32)) (F_X1_narrow w8 w2)) H locs ls hf hP hD hS (lv_sub hl [] rfl)
  have J_c99 : ∀ (τ : XS) (w2 : Bool) (w3 : Int32) (w4 : Int64) (w8 : Int64) (H : Heap) (locs : List Loc) (ls : Array Slot), F_X5_twice_c99 τ a0 w2 w3 w4 w8 = res → va_P z.1 vwCl (xW z r τ) H → va_D A (xW z r τ) → va_S A s.heap H locs → lv_has ls 10 [(0, .ref (r 8)), (1, .int a0), (2, .int (zB w2)), (3, .int w3), (4, .long w4), (8, .long w8)] → W p l e { frames := 2, cells := 0, slots := 0, locals := 46 } s m ([.ref (r 8), .int a0] : List Value).toArray below meth c H locs 0 0 Q (F0 m 99 ls []) := by
    intro τ w2 w3 w4 w8 H locs ls hf hP hD hS hl
    unfold F_X5_twice_c99 at hf
    refine lv_iload_n hx hb dX5_twice_99 rfl (lv_at hl 3 rfl) ?_
    refine lv_if_le (tgt := 117) hx hb dX5_twice_100 (by decide) (fun c_100 => ?_) (fun c_100 => ?_)
    · rw [if_pos c_100] at hf
      exact J_c117 τ w2 w8 H locs ls hf hP hD hS (lv_sub hl [0, 1, 2, 5] rfl)
    · rw [if_neg c_100] at hf
      refine lv_lload hx hb dX5_twice_103 (lv_at hl 5 rfl) ?_
      refine lv_lload hx hb dX5_twice_105 (lv_at hl 4 rfl) ?_
      refine lv_iload_n hx hb dX5_twice_107 rfl (lv_at hl 2 rfl) ?_
      refine k_X1_width (a0 := w2) S tl_X5_65 ⟨Nat.le_of_ble_eq_true rfl, Nat.le_of_ble_eq_true rfl⟩ hl.1 (Nat.le_of_ble_eq_true rfl) dX5_twice_108 ?_
      refine lv_iload_n hx hb dX5_twice_111 rfl (lv_at hl 3 rfl) ?_
      refine lv_isub hx hb dX5_twice_112 ?_
      refine lv_lshl (v := (j_lshl w4 ((F_X1_width w2) - w3))) hx hb dX5_twice_113 rfl ?_
      refine lv_lor hx hb dX5_twice_114 ?_
      refine lv_lstore (lv' := [(8, .long (w8 ||| (j_lshl w4 ((F_X1_width w2) - w3)))), (0, .ref (r 8)), (1, .int a0), (2, .int (zB w2)), (3, .int w3), (4, .long w4)]) hx hb dX5_twice_115 hl (by decide) rfl (fun ls hl => ?_)
      exact J_c117 τ w2 (w8 ||| (j_lshl w4 ((F_X1_width w2) - w3))) H locs ls hf hP hD hS (lv_sub hl [1, 2, 3, 0] rfl)
  have J_c19 : ∀ (τ : XS) (w2 : Bool) (w3 : Int32) (H : Heap) (locs : List Loc) (ls : Array Slot), F_X5_twice_c19 τ a0 w2 w3 = res → va_P z.1 vwCl (xW z r τ) H → va_D A (xW z r τ) → va_S A s.heap H locs → lv_has ls 10 [(0, .ref (r 8)), (1, .int a0), (2, .int (zB w2)), (3, .int w3)] → W p l e { frames := 2, cells := 0, slots := 0, locals := 46 } s m ([.ref (r 8), .int a0] : List Value).toArray below meth c H locs 0 0 Q (F0 m 19 ls []) := by
    intro τ w2 w3 H locs ls hf hP hD hS hl
    unfold F_X5_twice_c19 at hf
    refine lv_iload_n hx hb dX5_twice_19 rfl (lv_at hl 1 rfl) ?_
    refine lv_bipush (v := 29) hx hb dX5_twice_20 (by decide) ?_
    refine lv_iconst (v := 2) hx hb dX5_twice_22 (by decide) ?_
    refine k_X1_field (a0 := a0) (a1 := (29 : Int32)) (a2 := (2 : Int32)) S tl_X5_23 ⟨Nat.le_of_ble_eq_true rfl, Nat.le_of_ble_eq_true rfl⟩ hl.1 (Nat.le_of_ble_eq_true rfl) dX5_twice_23 ?_
    refine lv_if_ne (tgt := 56) hx hb dX5_twice_26 (by decide) (fun c_26 => ?_) (fun c_26 => ?_)
    · rw [if_neg c_26] at hf
      refine lv_iconst (v := 0) hx hb dX5_twice_56 (by decide) ?_
      exact hend false τ H locs 57 ls hf hP hD hS dX5_twice_57
    · rw [if_pos c_26] at hf
      refine lv_iload_n hx hb dX5_twice_29 rfl (lv_at hl 1 rfl) ?_
      refine lv_bipush (v := 21) hx hb dX5_twice_30 (by decide) ?_
      refine k_X1_isOne (a0 := a0) (a1 := (21 : Int32)) S tl_X5_17 ⟨Nat.le_of_ble_eq_true rfl, Nat.le_of_ble_eq_true rfl⟩ hl.1 (Nat.le_of_ble_eq_true rfl) dX5_twice_32 ?_
      refine gz_ne (tgt := 56) hx hb dX5_twice_35 (by decide) (fun c_35 => ?_) (fun c_35 => ?_)
      · rw [if_pos c_35] at hf
        refine lv_iconst (v := 0) hx hb dX5_twice_56 (by decide) ?_
        exact hend false τ H locs 57 ls hf hP hD hS dX5_twice_57
      · rw [if_neg c_35] at hf
        refine lv_iload_n hx hb dX5_twice_38 rfl (lv_at hl 1 rfl) ?_
        refine lv_bipush (v := 22) hx hb dX5_twice_39 (by decide) ?_
        refine k_X1_isOne (a0 := a0) (a1 := (22 : Int32)) S tl_X5_17 ⟨Nat.le_of_ble_eq_true rfl, Nat.le_of_ble_eq_true rfl⟩ hl.1 (Nat.le_of_ble_eq_true rfl) dX5_twice_41 ?_
        refine lv_iload_n hx hb dX5_twice_44 rfl (lv_at hl 2 rfl) ?_
        refine gz_cne (tgt := 56) hx hb dX5_twice_45 (by decide) (fun c_45 => ?_) (fun c_45 => ?_)
        · rw [if_neg c_45] at hf
          refine lv_iconst (v := 0) hx hb dX5_twice_56 (by decide) ?_
          exact hend false τ H locs 57 ls hf hP hD hS dX5_twice_57
        · rw [if_pos c_45] at hf
          refine lv_iload_n hx hb dX5_twice_48 rfl (lv_at hl 3 rfl) ?_
          refine lv_iload_n hx hb dX5_twice_49 rfl (lv_at hl 2 rfl) ?_
          refine k_X1_width (a0 := w2) S tl_X5_65 ⟨Nat.le_of_ble_eq_true rfl, Nat.le_of_ble_eq_true rfl⟩ hl.1 (Nat.le_of_ble_eq_true rfl) dX5_twice_50 ?_
          refine lv_icmp_lt (tgt := 58) hx hb dX5_twice_53 (by decide) (fun c_53 => ?_) (fun c_53 => ?_)
          · rw [if_pos c_53] at hf
            refine lv_aload_n hx hb dX5_twice_58 rfl (lv_at hl 0 rfl) ?_
            refine fg_X5_state S hK hP tf_X5_7 dX5_twice_59 ?_
            refine lv_iload_n hx hb dX5_twice_62 rfl (lv_at hl 1 rfl) ?_
            refine lv_iconst (v := 5) hx hb dX5_twice_63 (by decide) ?_
            refine lv_iconst (v := 5) hx hb dX5_twice_64 (by decide) ?_
            refine k_X1_field (a0 := a0) (a1 := (5 : Int32)) (a2 := (5 : Int32)) S tl_X5_23 ⟨Nat.le_of_ble_eq_true rfl, Nat.le_of_ble_eq_true rfl⟩ hl.1 (Nat.le_of_ble_eq_true rfl) dX5_twice_65 ?_
            refine k_X8_register (a0 := (F_X1_field a0 (5 : Int32) (5 : Int32))) S hK hP tl_X5_49 ⟨Nat.le_of_ble_eq_true rfl, Nat.le_of_ble_eq_true rfl⟩ hl.1 (Nat.le_of_ble_eq_true rfl) dX5_twice_68 ?_
            refine lv_lstore (lv' := [(4, .long (F_X8_register τ (F_X1_field a0 (5 : Int32) (5 : Int32)))), (0, .ref (r 8)), (1, .int a0), (2, .int (zB w2)), (3, .int w3)]) hx hb dX5_twice_71 hl (by decide) rfl (fun ls hl => ?_)
            refine lv_aload_n hx hb dX5_twice_73 rfl (lv_at hl 1 rfl) ?_
            refine fg_X5_state S hK hP tf_X5_7 dX5_twice_74 ?_
            refine lv_iload_n hx hb dX5_twice_77 rfl (lv_at hl 2 rfl) ?_
            refine lv_bipush (v := 16) hx hb dX5_twice_78 (by decide) ?_
            refine lv_iconst (v := 5) hx hb dX5_twice_80 (by decide) ?_
            refine k_X1_field (a0 := a0) (a1 := (16 : Int32)) (a2 := (5 : Int32)) S tl_X5_23 ⟨Nat.le_of_ble_eq_true rfl, Nat.le_of_ble_eq_true rfl⟩ hl.1 (Nat.le_of_ble_eq_true rfl) dX5_twice_81 ?_
            refine k_X8_register (a0 := (F_X1_field a0 (16 : Int32) (5 : Int32))) S hK hP tl_X5_49 ⟨Nat.le_of_ble_eq_true rfl, Nat.le_of_ble_eq_true rfl⟩ hl.1 (Nat.le_of_ble_eq_true rfl) dX5_twice_84 ?_
            refine lv_iload_n hx hb dX5_twice_87 rfl (lv_at hl 3 rfl) ?_
            refine k_X1_narrow (a0 := (F_X8_register τ (F_X1_field a0 (16 : Int32) (5 : Int32)))) (a1 := w2) S tl_X5_73 ⟨Nat.le_of_ble_eq_true rfl, Nat.le_of_ble_eq_true rfl⟩ hl.1 (Nat.le_of_ble_eq_true rfl) dX5_twice_88 ?_
            refine lv_lstore (lv' := [(6, .long (F_X1_narrow (F_X8_register τ (F_X1_field a0 (16 : Int32) (5 : Int32))) w2)), (4, .long (F_X8_register τ (F_X1_field a0 (5 : Int32) (5 : Int32)))), (0, .ref (r 8)), (1, .int a0), (2, .int (zB w2)), (3, .int w3)]) hx hb dX5_twice_91 hl (by decide) rfl (fun ls hl => ?_)
            refine lv_lload hx hb dX5_twice_93 (lv_at hl 0 rfl) ?_
            refine lv_iload_n hx hb dX5_twice_95 rfl (lv_at hl 5 rfl) ?_
            refine lv_lushr (v := (j_lushr (F_X1_narrow (F_X8_register τ (F_X1_field a0 (16 : Int32) (5 : Int32))) w2) w3)) hx hb dX5_twice_96 rfl ?_
            refine lv_lstore (lv' := [(8, .long (j_lushr (F_X1_narrow (F_X8_register τ (F_X1_field a0 (16 : Int32) (5 : Int32))) w2) w3)), (6, .long (F_X1_narrow (F_X8_register τ (F_X1_field a0 (16 : Int32) (5 : Int32))) w2)), (4, .long (F_X8_register τ (F_X1_field a0 (5 : Int32) (5 : Int32)))), (0, .ref (r 8)), (1, .int a0), (2, .int (zB w2)), (3, .int w3)]) hx hb dX5_twice_97 hl (by decide) rfl (fun ls hl => ?_)
            exact J_c99 τ w2 w3 (F_X8_register τ (F_X1_field a0 (5 : Int32) (5 : Int32))) (j_lushr (F_X1_narrow (F_X8_register τ (F_X1_field a0 (16 : Int32) (5 : Int32))) w2) w3) H locs ls hf hP hD hS (lv_sub hl [3, 4, 5, 6, 2, 0] rfl)
          · rw [if_neg c_53] at hf
            refine lv_iconst (v := 0) hx hb dX5_twice_56 (by decide) ?_
            exact hend false τ H locs 57 ls hf hP hD hS dX5_twice_57
  have J_c9 : ∀ (τ : XS) (s0 : Bool) (H : Heap) (locs : List Loc) (ls : Array Slot), F_X5_twice_c9 τ a0 s0 = res → va_P z.1 vwCl (xW z r τ) H → va_D A (xW z r τ) → va_S A s.heap H locs → lv_has ls 10 [(0, .ref (r 8)), (1, .int a0)] → W p l e { frames := 2, cells := 0, slots := 0, locals := 46 } s m ([.ref (r 8), .int a0] : List Value).toArray below meth c H locs 0 0 Q (F0 m 9 ls [.int (zB s0)]) := by
    intro τ s0 H locs ls hf hP hD hS hl
    unfold F_X5_twice_c9 at hf
    refine lv_istore_n (lv' := [(2, .int (zB s0)), (0, .ref (r 8)), (1, .int a0)]) hx hb dX5_twice_9 rfl hl (by decide) rfl (fun ls hl => ?_)
    refine lv_iload_n hx hb dX5_twice_10 rfl (lv_at hl 2 rfl) ?_
    refine lv_bipush (v := 10) hx hb dX5_twice_11 (by decide) ?_
    refine lv_bipush (v := 6) hx hb dX5_twice_13 (by decide) ?_
    refine k_X1_field (a0 := a0) (a1 := (10 : Int32)) (a2 := (6 : Int32)) S tl_X5_23 ⟨Nat.le_of_ble_eq_true rfl, Nat.le_of_ble_eq_true rfl⟩ hl.1 (Nat.le_of_ble_eq_true rfl) dX5_twice_15 ?_
    refine lv_istore_n (lv' := [(3, .int (F_X1_field a0 (10 : Int32) (6 : Int32))), (2, .int (zB s0)), (0, .ref (r 8)), (1, .int a0)]) hx hb dX5_twice_18 rfl hl (by decide) rfl (fun ls hl => ?_)
    exact J_c19 τ s0 (F_X1_field a0 (10 : Int32) (6 : Int32)) H locs ls hf hP hD hS (lv_sub hl [2, 3, 1, 0] rfl)
  unfold F_X5_twice at hf
  refine lv_iload_n hx hb dX5_twice_0 rfl (lv_at hl 1 rfl) ?_
  refine lv_if_ge (tgt := 8) hx hb dX5_twice_1 (by decide) (fun c_1 => ?_) (fun c_1 => ?_)
  · rw [if_pos c_1] at hf
    refine lv_iconst (v := 0) hx hb dX5_twice_8 (by decide) ?_
    exact J_c9 σ false H locs ls hf hP hD hS (lv_sub hl [0, 1] rfl)
  · rw [if_neg c_1] at hf
    refine lv_iconst (v := 1) hx hb dX5_twice_4 (by decide) ?_
    refine lv_goto (tgt := 9) hx hb dX5_twice_5 (by decide) ?_
    exact J_c9 σ true H locs ls hf hP hD hS (lv_sub hl [0, 1] rfl)
theorem k_X5_twice {p : Program} {l : Launch} {e : Env} {R : Room} {s : State} {m : MethodId} {args : Array Value} {below : List Frame} {meth : Method} {c : Code} {H : Heap} {locs : List Loc} {Q : State → Prop} {cc : ByteArray} {pc : Nat} {ls : Array Slot} {rest : List Value} {own : String} {index nL : Nat} {A : Nat → Prop} {z : Cx} {r : Nat → Nat} {σ : XS} {a0 : Int32} (S : CallFix p m c cc nL s args tbG own) (hK : va_K z.1 vwCl (cxT z) s) (hA : ∀ q, s.heap.size ≤ q → A q) (hP : va_P z.1 vwCl (xW z r σ) H) (hD : va_D A (xW z r σ)) (hS : va_S A s.heap H locs) (hl : Cond.methodLink own index yX5_twice ∈ tbG) (hR : 2 + 1 ≤ R.frames ∧ 8 + (10 + 11) + 46 ≤ R.locals) (hsz : ls.size = nL) (hcat : (rest.map fun v => v.category).sum ≤ 8) (hdg : decode cc pc = .ok (.invokevirtual index, 3)) (kk : ∀ (H : Heap) (locs : List Loc), va_P z.1 vwCl (xW z r (F_X5_twice σ a0).2) H → va_D A (xW z r (F_X5_twice σ a0).2) → va_S A s.heap H locs → W p l e R s m args below meth c H locs 0 0 Q (F0 m (pc + 3) ls (.int (zB (F_X5_twice σ a0).1) :: rest))) : W p l e R s m args below meth c H locs 0 0 Q (F0 m pc ls (.int a0 :: .ref (r 8) :: rest)) :=
  km (As := [.int a0]) (ov := some (.int (zB (F_X5_twice σ a0).1))) (w' := xW z r (F_X5_twice σ a0).2) (q0 := 8) (ci := 4) S hK hA hP hD hS (c_X5_twice l z r σ a0 H.size _ rfl) ⟨tb_cB 1 S.2.2.2.2 tc_X5_twice ti_X5 hl rfl rfl (by decide +kernel) hR, S.2.2.2.2 _ tm_X5_twice, S.2.2.2.2 _ te_X5_twice⟩ rfl rfl rfl rfl hsz rfl hcat hdg kk

theorem dX8_isInterruptDue_0 : decode cX8_isInterruptDue 0 = .ok (.aload_n 0, 1) := by decide +kernel
theorem dX8_isInterruptDue_1 : decode cX8_isInterruptDue 1 = .ok (.getfield 33, 3) := by decide +kernel
theorem dX8_isInterruptDue_4 : decode cX8_isInterruptDue 4 = .ok (.ifCond .eq 19, 3) := by decide +kernel
theorem dX8_isInterruptDue_7 : decode cX8_isInterruptDue 7 = .ok (.aload_n 0, 1) := by decide +kernel
theorem dX8_isInterruptDue_8 : decode cX8_isInterruptDue 8 = .ok (.getfield 9, 3) := by decide +kernel
theorem dX8_isInterruptDue_11 : decode cX8_isInterruptDue 11 = .ok (.bipush 45, 2) := by decide +kernel
theorem dX8_isInterruptDue_13 : decode cX8_isInterruptDue 13 = .ok (.laload, 1) := by decide +kernel
theorem dX8_isInterruptDue_14 : decode cX8_isInterruptDue 14 = .ok (.lconst 0, 1) := by decide +kernel
theorem dX8_isInterruptDue_15 : decode cX8_isInterruptDue 15 = .ok (.lcmp, 1) := by decide +kernel
theorem dX8_isInterruptDue_16 : decode cX8_isInterruptDue 16 = .ok (.ifCond .ne 7, 3) := by decide +kernel
theorem dX8_isInterruptDue_19 : decode cX8_isInterruptDue 19 = .ok (.iconst 1, 1) := by decide +kernel
theorem dX8_isInterruptDue_20 : decode cX8_isInterruptDue 20 = .ok (.goto 4, 3) := by decide +kernel
theorem dX8_isInterruptDue_23 : decode cX8_isInterruptDue 23 = .ok (.iconst 0, 1) := by decide +kernel
theorem dX8_isInterruptDue_24 : decode cX8_isInterruptDue 24 = .ok (.ireturn, 1) := by decide +kernel
def F_X8_isInterruptDue (σ : XS)  : Bool := (if (xI σ) = true then (if (xP σ (45 : Int32).toNatClampNeg) = (0 : Int64) then true else false) else false)
set_option maxHeartbeats 4000000 in
set_option maxRecDepth 100000 in
theorem c_X8_isInterruptDue (l : Launch) (z : Cx) (r : Nat → Nat) (σ : XS) (res : Bool) (hf : F_X8_isInterruptDue σ = res) : Met l yX8_isInterruptDue (wsC yX8_isInterruptDue cX8_isInterruptDue 1 (some .boolean)) { frames := 0, cells := 0, slots := 0, locals := 0 } (rPc z (xW z r σ) [.ref (r 3)]) (gS (some (.int (zB res)))) 0 0 (fun _ => False) := by
  refine mk_r_z (own := RX8) (by decide) rfl _ (Nat.le_of_ble_eq_true rfl) (fun p e s m below meth c H locs Q ls S hK hP hl hend => ?_)
  have hx := S.1
  have hb := S.2.1
  have hown := S.2.2.2.1
  have hts := S.2.2.2.2
  have hl : lv_has ls 1 [(0, .ref (r 3))] := hl
  unfold F_X8_isInterruptDue at hf
  refine lv_aload_n hx hb dX8_isInterruptDue_0 rfl (lv_at hl 0 rfl) ?_
  refine fg_X8_interrupted S hK hP tf_X8_33 dX8_isInterruptDue_1 ?_
  refine gz_eq (tgt := 23) hx hb dX8_isInterruptDue_4 (by decide) (fun c_4 => ?_) (fun c_4 => ?_)
  · rw [if_neg c_4] at hf
    refine lv_iconst (v := 0) hx hb dX8_isInterruptDue_23 (by decide) ?_
    exact hend false 24 ls hf dX8_isInterruptDue_24
  · rw [if_pos c_4] at hf
    refine lv_aload_n hx hb dX8_isInterruptDue_7 rfl (lv_at hl 0 rfl) ?_
    refine fg_X8_parts S hK hP tf_X8_9 dX8_isInterruptDue_8 ?_
    refine lv_bipush (v := 45) hx hb dX8_isInterruptDue_11 (by decide) ?_
    refine al_xP S hK hP (show vp_in (45 : Int32) 46 by unfold vp_in; decide) dX8_isInterruptDue_13 ?_
    refine lv_lconst (v := 0) hx hb dX8_isInterruptDue_14 (by decide) ?_
    refine gl_ne (tgt := 23) hx hb dX8_isInterruptDue_15 dX8_isInterruptDue_16 (by decide) (fun c_15 => ?_) (fun c_15 => ?_)
    · rw [if_neg c_15] at hf
      refine lv_iconst (v := 0) hx hb dX8_isInterruptDue_23 (by decide) ?_
      exact hend false 24 ls hf dX8_isInterruptDue_24
    · rw [if_pos c_15] at hf
      refine lv_iconst (v := 1) hx hb dX8_isInterruptDue_19 (by decide) ?_
      refine lv_goto (tgt := 24) hx hb dX8_isInterruptDue_20 (by decide) ?_
      exact hend true 24 ls hf dX8_isInterruptDue_24
theorem k_X8_isInterruptDue {p : Program} {l : Launch} {e : Env} {R : Room} {s : State} {m : MethodId} {args : Array Value} {below : List Frame} {meth : Method} {c : Code} {H : Heap} {locs : List Loc} {Q : State → Prop} {cc : ByteArray} {pc : Nat} {ls : Array Slot} {rest : List Value} {own : String} {index nL : Nat} {z : Cx} {r : Nat → Nat} {σ : XS} (S : CallFix p m c cc nL s args tbG own) (hK : va_K z.1 vwCl (cxT z) s) (hP : va_P z.1 vwCl (xW z r σ) H) (hl : Cond.methodLink own index yX8_isInterruptDue ∈ tbG) (hR : 0 + 1 ≤ R.frames ∧ 8 + (1 + 11) + 0 ≤ R.locals) (hsz : ls.size = nL) (hcat : (rest.map fun v => v.category).sum ≤ 8) (hdg : decode cc pc = .ok (.invokevirtual index, 3)) (kk : W p l e R s m args below meth c H locs 0 0 Q (F0 m (pc + 3) ls (.int (zB (F_X8_isInterruptDue σ)) :: rest))) : W p l e R s m args below meth c H locs 0 0 Q (F0 m pc ls (.ref (r 3) :: rest)) :=
  kr (As := []) (ov := some (.int (zB (F_X8_isInterruptDue σ)))) (q0 := 3) (ci := 7) S hK hP (c_X8_isInterruptDue l z r σ _ rfl) ⟨tb_cB 0 S.2.2.2.2 tc_X8_isInterruptDue ti_X8 hl rfl rfl (by decide +kernel) hR, S.2.2.2.2 _ tm_X8_isInterruptDue, S.2.2.2.2 _ te_X8_isInterruptDue⟩ rfl rfl rfl rfl hsz rfl hcat hdg kk

theorem dX8_takeInterrupt_0 : decode cX8_takeInterrupt 0 = .ok (.aload_n 0, 1) := by decide +kernel
theorem dX8_takeInterrupt_1 : decode cX8_takeInterrupt 1 = .ok (.aload_n 0, 1) := by decide +kernel
theorem dX8_takeInterrupt_2 : decode cX8_takeInterrupt 2 = .ok (.getfield 9, 3) := by decide +kernel
theorem dX8_takeInterrupt_5 : decode cX8_takeInterrupt 5 = .ok (.bipush 33, 2) := by decide +kernel
theorem dX8_takeInterrupt_7 : decode cX8_takeInterrupt 7 = .ok (.laload, 1) := by decide +kernel
theorem dX8_takeInterrupt_8 : decode cX8_takeInterrupt 8 = .ok (.sipush 128, 3) := by decide +kernel
theorem dX8_takeInterrupt_11 : decode cX8_takeInterrupt 11 = .ok (.invokevirtual 45, 3) := by decide +kernel
theorem dX8_takeInterrupt_14 : decode cX8_takeInterrupt 14 = .ok (.return_, 1) := by decide +kernel
def F_X8_takeInterrupt_c14 (τ : XS) : XS := τ
def F_X8_takeInterrupt (σ : XS)  : XS := (F_X8_takeInterrupt_c14 (F_X8_enter σ (xP σ (33 : Int32).toNatClampNeg) (128 : Int32)))
set_option maxHeartbeats 4000000 in
set_option maxRecDepth 100000 in
theorem c_X8_takeInterrupt (l : Launch) (z : Cx) (r : Nat → Nat) (σ : XS) (sz : Nat) (res : XS) (hf : F_X8_takeInterrupt σ = res) : Met l yX8_takeInterrupt (wsC yX8_takeInterrupt cX8_takeInterrupt 1 none) { frames := 1, cells := 0, slots := 0, locals := 27 } (mPc z (xW z r σ) sz [.ref (r 3)]) (gM z (va_A (xW z r σ) sz) none (xW z r res)) 0 0 (va_A (xW z r σ) sz) := by
  refine mk_m_v (own := RX8) (wf := xW z r) (by decide) rfl sz _ (Nat.le_of_ble_eq_true rfl) (fun p e s m below meth c A H locs Q ls S hK hA hP hD hS hl hend => ?_)
  have hx := S.1
  have hb := S.2.1
  have hown := S.2.2.2.1
  have hts := S.2.2.2.2
  have hl : lv_has ls 1 [(0, .ref (r 3))] := hl
  have J_c14 : ∀ (τ : XS) (H : Heap) (locs : List Loc) (ls : Array Slot), F_X8_takeInterrupt_c14 τ = res → va_P z.1 vwCl (xW z r τ) H → va_D A (xW z r τ) → va_S A s.heap H locs → lv_has ls 1 [] → W p l e { frames := 1, cells := 0, slots := 0, locals := 27 } s m ([.ref (r 3)] : List Value).toArray below meth c H locs 0 0 Q (F0 m 14 ls []) := by
    intro τ H locs ls hf hP hD hS hl
    unfold F_X8_takeInterrupt_c14 at hf
    exact hend τ H locs 14 ls hf hP hD hS dX8_takeInterrupt_14
  unfold F_X8_takeInterrupt at hf
  refine lv_aload_n hx hb dX8_takeInterrupt_0 rfl (lv_at hl 0 rfl) ?_
  refine lv_aload_n hx hb dX8_takeInterrupt_1 rfl (lv_at hl 0 rfl) ?_
  refine fg_X8_parts S hK hP tf_X8_9 dX8_takeInterrupt_2 ?_
  refine lv_bipush (v := 33) hx hb dX8_takeInterrupt_5 (by decide) ?_
  refine al_xP S hK hP (show vp_in (33 : Int32) 46 by unfold vp_in; decide) dX8_takeInterrupt_7 ?_
  refine lv_sipush (v := 128) hx hb dX8_takeInterrupt_8 (by decide) ?_
  refine k_X8_enter (a0 := (xP σ (33 : Int32).toNatClampNeg)) (a1 := (128 : Int32)) S hK hA hP hD hS tl_X8_45 ⟨Nat.le_of_ble_eq_true rfl, Nat.le_of_ble_eq_true rfl⟩ hl.1 (Nat.le_of_ble_eq_true rfl) dX8_takeInterrupt_11 (fun H locs hP hD hS => ?_)
  exact J_c14 (F_X8_enter σ (xP σ (33 : Int32).toNatClampNeg) (128 : Int32)) H locs ls hf hP hD hS (lv_sub hl [] rfl)
theorem k_X8_takeInterrupt {p : Program} {l : Launch} {e : Env} {R : Room} {s : State} {m : MethodId} {args : Array Value} {below : List Frame} {meth : Method} {c : Code} {H : Heap} {locs : List Loc} {Q : State → Prop} {cc : ByteArray} {pc : Nat} {ls : Array Slot} {rest : List Value} {own : String} {index nL : Nat} {A : Nat → Prop} {z : Cx} {r : Nat → Nat} {σ : XS} (S : CallFix p m c cc nL s args tbG own) (hK : va_K z.1 vwCl (cxT z) s) (hA : ∀ q, s.heap.size ≤ q → A q) (hP : va_P z.1 vwCl (xW z r σ) H) (hD : va_D A (xW z r σ)) (hS : va_S A s.heap H locs) (hl : Cond.methodLink own index yX8_takeInterrupt ∈ tbG) (hR : 1 + 1 ≤ R.frames ∧ 8 + (1 + 11) + 27 ≤ R.locals) (hsz : ls.size = nL) (hcat : (rest.map fun v => v.category).sum ≤ 8) (hdg : decode cc pc = .ok (.invokevirtual index, 3)) (kk : ∀ (H : Heap) (locs : List Loc), va_P z.1 vwCl (xW z r (F_X8_takeInterrupt σ)) H → va_D A (xW z r (F_X8_takeInterrupt σ)) → va_S A s.heap H locs → W p l e R s m args below meth c H locs 0 0 Q (F0 m (pc + 3) ls (rest))) : W p l e R s m args below meth c H locs 0 0 Q (F0 m pc ls (.ref (r 3) :: rest)) :=
  km (As := []) (ov := none) (w' := xW z r (F_X8_takeInterrupt σ)) (q0 := 3) (ci := 7) S hK hA hP hD hS (c_X8_takeInterrupt l z r σ H.size _ rfl) ⟨tb_cB 0 S.2.2.2.2 tc_X8_takeInterrupt ti_X8 hl rfl rfl (by decide +kernel) hR, S.2.2.2.2 _ tm_X8_takeInterrupt, S.2.2.2.2 _ te_X8_takeInterrupt⟩ rfl rfl rfl rfl hsz rfl hcat hdg kk

theorem dX6_fetches_0 : decode cX6_fetches 0 = .ok (.aload_n 0, 1) := by decide +kernel
theorem dX6_fetches_1 : decode cX6_fetches 1 = .ok (.getfield 13, 3) := by decide +kernel
theorem dX6_fetches_4 : decode cX6_fetches 4 = .ok (.invokevirtual 65, 3) := by decide +kernel
theorem dX6_fetches_7 : decode cX6_fetches 7 = .ok (.ifCond .eq 12, 3) := by decide +kernel
theorem dX6_fetches_10 : decode cX6_fetches 10 = .ok (.aload_n 0, 1) := by decide +kernel
theorem dX6_fetches_11 : decode cX6_fetches 11 = .ok (.getfield 13, 3) := by decide +kernel
theorem dX6_fetches_14 : decode cX6_fetches 14 = .ok (.invokevirtual 71, 3) := by decide +kernel
theorem dX6_fetches_17 : decode cX6_fetches 17 = .ok (.iconst 0, 1) := by decide +kernel
theorem dX6_fetches_18 : decode cX6_fetches 18 = .ok (.ireturn, 1) := by decide +kernel
theorem dX6_fetches_19 : decode cX6_fetches 19 = .ok (.aload_n 0, 1) := by decide +kernel
theorem dX6_fetches_20 : decode cX6_fetches 20 = .ok (.getfield 13, 3) := by decide +kernel
theorem dX6_fetches_23 : decode cX6_fetches 23 = .ok (.invokevirtual 74, 3) := by decide +kernel
theorem dX6_fetches_26 : decode cX6_fetches 26 = .ok (.lstore_n 1, 1) := by decide +kernel
theorem dX6_fetches_27 : decode cX6_fetches 27 = .ok (.lload_n 1, 1) := by decide +kernel
theorem dX6_fetches_28 : decode cX6_fetches 28 = .ok (.ldc2_w 78, 3) := by decide +kernel
theorem dX6_fetches_31 : decode cX6_fetches 31 = .ok (.land, 1) := by decide +kernel
theorem dX6_fetches_32 : decode cX6_fetches 32 = .ok (.lconst 0, 1) := by decide +kernel
theorem dX6_fetches_33 : decode cX6_fetches 33 = .ok (.lcmp, 1) := by decide +kernel
theorem dX6_fetches_34 : decode cX6_fetches 34 = .ok (.ifCond .eq 16, 3) := by decide +kernel
theorem dX6_fetches_37 : decode cX6_fetches 37 = .ok (.aload_n 0, 1) := by decide +kernel
theorem dX6_fetches_38 : decode cX6_fetches 38 = .ok (.getfield 13, 3) := by decide +kernel
theorem dX6_fetches_41 : decode cX6_fetches 41 = .ok (.lload_n 1, 1) := by decide +kernel
theorem dX6_fetches_42 : decode cX6_fetches 42 = .ok (.bipush 34, 2) := by decide +kernel
theorem dX6_fetches_44 : decode cX6_fetches 44 = .ok (.iconst 0, 1) := by decide +kernel
theorem dX6_fetches_45 : decode cX6_fetches 45 = .ok (.invokevirtual 80, 3) := by decide +kernel
theorem dX6_fetches_48 : decode cX6_fetches 48 = .ok (.iconst 0, 1) := by decide +kernel
theorem dX6_fetches_49 : decode cX6_fetches 49 = .ok (.ireturn, 1) := by decide +kernel
theorem dX6_fetches_50 : decode cX6_fetches 50 = .ok (.aload_n 0, 1) := by decide +kernel
theorem dX6_fetches_51 : decode cX6_fetches 51 = .ok (.getfield 17, 3) := by decide +kernel
theorem dX6_fetches_54 : decode cX6_fetches 54 = .ok (.lload_n 1, 1) := by decide +kernel
theorem dX6_fetches_55 : decode cX6_fetches 55 = .ok (.iconst 4, 1) := by decide +kernel
theorem dX6_fetches_56 : decode cX6_fetches 56 = .ok (.iconst 2, 1) := by decide +kernel
theorem dX6_fetches_57 : decode cX6_fetches 57 = .ok (.aload_n 0, 1) := by decide +kernel
theorem dX6_fetches_58 : decode cX6_fetches 58 = .ok (.getfield 13, 3) := by decide +kernel
theorem dX6_fetches_61 : decode cX6_fetches 61 = .ok (.invokevirtual 86, 3) := by decide +kernel
theorem dX6_fetches_64 : decode cX6_fetches 64 = .ok (.invokevirtual 90, 3) := by decide +kernel
theorem dX6_fetches_67 : decode cX6_fetches 67 = .ok (.istore_n 3, 1) := by decide +kernel
theorem dX6_fetches_68 : decode cX6_fetches 68 = .ok (.iload_n 3, 1) := by decide +kernel
theorem dX6_fetches_69 : decode cX6_fetches 69 = .ok (.ifCond .ge 26, 3) := by decide +kernel
theorem dX6_fetches_72 : decode cX6_fetches 72 = .ok (.aload_n 0, 1) := by decide +kernel
theorem dX6_fetches_73 : decode cX6_fetches 73 = .ok (.getfield 13, 3) := by decide +kernel
theorem dX6_fetches_76 : decode cX6_fetches 76 = .ok (.lload_n 1, 1) := by decide +kernel
theorem dX6_fetches_77 : decode cX6_fetches 77 = .ok (.bipush 32, 2) := by decide +kernel
theorem dX6_fetches_79 : decode cX6_fetches 79 = .ok (.aload_n 0, 1) := by decide +kernel
theorem dX6_fetches_80 : decode cX6_fetches 80 = .ok (.getfield 13, 3) := by decide +kernel
theorem dX6_fetches_83 : decode cX6_fetches 83 = .ok (.invokevirtual 86, 3) := by decide +kernel
theorem dX6_fetches_86 : decode cX6_fetches 86 = .ok (.iadd, 1) := by decide +kernel
theorem dX6_fetches_87 : decode cX6_fetches 87 = .ok (.iconst (-1), 1) := by decide +kernel
theorem dX6_fetches_88 : decode cX6_fetches 88 = .ok (.iload_n 3, 1) := by decide +kernel
theorem dX6_fetches_89 : decode cX6_fetches 89 = .ok (.isub, 1) := by decide +kernel
theorem dX6_fetches_90 : decode cX6_fetches 90 = .ok (.invokevirtual 80, 3) := by decide +kernel
theorem dX6_fetches_93 : decode cX6_fetches 93 = .ok (.iconst 0, 1) := by decide +kernel
theorem dX6_fetches_94 : decode cX6_fetches 94 = .ok (.ireturn, 1) := by decide +kernel
theorem dX6_fetches_95 : decode cX6_fetches 95 = .ok (.aload_n 0, 1) := by decide +kernel
theorem dX6_fetches_96 : decode cX6_fetches 96 = .ok (.aload_n 0, 1) := by decide +kernel
theorem dX6_fetches_97 : decode cX6_fetches 97 = .ok (.getfield 7, 3) := by decide +kernel
theorem dX6_fetches_100 : decode cX6_fetches 100 = .ok (.iload_n 3, 1) := by decide +kernel
theorem dX6_fetches_101 : decode cX6_fetches 101 = .ok (.i2l, 1) := by decide +kernel
theorem dX6_fetches_102 : decode cX6_fetches 102 = .ok (.iconst 4, 1) := by decide +kernel
theorem dX6_fetches_103 : decode cX6_fetches 103 = .ok (.invokevirtual 94, 3) := by decide +kernel
theorem dX6_fetches_106 : decode cX6_fetches 106 = .ok (.l2i, 1) := by decide +kernel
theorem dX6_fetches_107 : decode cX6_fetches 107 = .ok (.putfield 100, 3) := by decide +kernel
theorem dX6_fetches_110 : decode cX6_fetches 110 = .ok (.iconst 1, 1) := by decide +kernel
theorem dX6_fetches_111 : decode cX6_fetches 111 = .ok (.ireturn, 1) := by decide +kernel
def F_X6_fetches (σ : XS)  : Option (Bool × XS) := (if (F_X8_isInterruptDue σ) = true then some ((false, (F_X8_takeInterrupt σ))) else (if ((F_X8_pc σ) &&& (3 : Int64)) = (0 : Int64) then ((F_X10_find σ (F_X8_pc σ) (4 : Int32) (2 : Int32) (F_X8_level σ)).bind fun v1 => (if 0 ≤ v1 then ((F_X4_read σ v1.toInt64 (4 : Int32)).bind fun v2 => some ((true, (xuO σ v2.toInt32)))) else some ((false, (F_X8_raiseAt σ (F_X8_pc σ) ((32 : Int32) + (F_X8_level σ)) ((-1 : Int32) - v1)))))) else some ((false, (F_X8_raiseAt σ (F_X8_pc σ) (34 : Int32) (0 : Int32))))))
set_option maxHeartbeats 4000000 in
set_option maxRecDepth 100000 in
theorem c_X6_fetches (l : Launch) (z : Cx) (r : Nat → Nat) (σ : XS) (sz : Nat) (res : Bool × XS) (hf : F_X6_fetches σ = some res) : Met l yX6_fetches (wsC yX6_fetches cX6_fetches 4 (some .boolean)) { frames := 4, cells := 0, slots := 0, locals := 110 } (mPc z (xW z r σ) sz [.ref (r 6)]) (gM z (va_A (xW z r σ) sz) (some (.int (zB res.1))) (xW z r res.2)) 0 0 (va_A (xW z r σ) sz) := by
  refine mk_m_z (own := RX6) (wf := xW z r) (by decide) rfl sz _ (Nat.le_of_ble_eq_true rfl) (fun p e s m below meth c A H locs Q ls S hK hA hP hD hS hl hend => ?_)
  have hx := S.1
  have hb := S.2.1
  have hown := S.2.2.2.1
  have hts := S.2.2.2.2
  have hl : lv_has ls 4 [(0, .ref (r 6))] := hl
  unfold F_X6_fetches at hf
  refine lv_aload_n hx hb dX6_fetches_0 rfl (lv_at hl 0 rfl) ?_
  refine fg_X6_state S hK hP tf_X6_13 dX6_fetches_1 ?_
  refine k_X8_isInterruptDue S hK hP tl_X6_65 ⟨Nat.le_of_ble_eq_true rfl, Nat.le_of_ble_eq_true rfl⟩ hl.1 (Nat.le_of_ble_eq_true rfl) dX6_fetches_4 ?_
  refine gz_eq (tgt := 19) hx hb dX6_fetches_7 (by decide) (fun c_7 => ?_) (fun c_7 => ?_)
  · rw [if_neg c_7] at hf
    refine lv_aload_n hx hb dX6_fetches_19 rfl (lv_at hl 0 rfl) ?_
    refine fg_X6_state S hK hP tf_X6_13 dX6_fetches_20 ?_
    refine k_X8_pc S hK hP tl_X6_74 ⟨Nat.le_of_ble_eq_true rfl, Nat.le_of_ble_eq_true rfl⟩ hl.1 (Nat.le_of_ble_eq_true rfl) dX6_fetches_23 ?_
    refine lv_lstore_n (lv' := [(1, .long (F_X8_pc σ)), (0, .ref (r 6))]) hx hb dX6_fetches_26 rfl hl (by decide) rfl (fun ls hl => ?_)
    refine lv_lload_n hx hb dX6_fetches_27 rfl (lv_at hl 0 rfl) ?_
    refine lv_ldc2 (v := 3) hx hb hown (hts _ tk_X6_78) dX6_fetches_28 ?_
    refine lv_land hx hb dX6_fetches_31 ?_
    refine lv_lconst (v := 0) hx hb dX6_fetches_32 (by decide) ?_
    refine gl_eq (tgt := 50) hx hb dX6_fetches_33 dX6_fetches_34 (by decide) (fun c_33 => ?_) (fun c_33 => ?_)
    · rw [if_pos c_33] at hf
      refine lv_aload_n hx hb dX6_fetches_50 rfl (lv_at hl 1 rfl) ?_
      refine fg_X6_walk S hK hP tf_X6_17 dX6_fetches_51 ?_
      refine lv_lload_n hx hb dX6_fetches_54 rfl (lv_at hl 0 rfl) ?_
      refine lv_iconst (v := 4) hx hb dX6_fetches_55 (by decide) ?_
      refine lv_iconst (v := 2) hx hb dX6_fetches_56 (by decide) ?_
      refine lv_aload_n hx hb dX6_fetches_57 rfl (lv_at hl 1 rfl) ?_
      refine fg_X6_state S hK hP tf_X6_13 dX6_fetches_58 ?_
      refine k_X8_level S hK hP tl_X6_86 ⟨Nat.le_of_ble_eq_true rfl, Nat.le_of_ble_eq_true rfl⟩ hl.1 (Nat.le_of_ble_eq_true rfl) dX6_fetches_61 ?_
      obtain ⟨v1, e_v1, hf⟩ := Option.bind_eq_some_iff.mp hf
      refine k_X10_find (a0 := (F_X8_pc σ)) (a1 := (4 : Int32)) (a2 := (2 : Int32)) (a3 := (F_X8_level σ)) (res := v1) (hres := e_v1) S hK hP tl_X6_90 ⟨Nat.le_of_ble_eq_true rfl, Nat.le_of_ble_eq_true rfl⟩ hl.1 (Nat.le_of_ble_eq_true rfl) dX6_fetches_64 ?_
      refine lv_istore_n (lv' := [(3, .int v1), (1, .long (F_X8_pc σ)), (0, .ref (r 6))]) hx hb dX6_fetches_67 rfl hl (by decide) rfl (fun ls hl => ?_)
      refine lv_iload_n hx hb dX6_fetches_68 rfl (lv_at hl 0 rfl) ?_
      refine lv_if_ge (tgt := 95) hx hb dX6_fetches_69 (by decide) (fun c_69 => ?_) (fun c_69 => ?_)
      · rw [if_pos c_69] at hf
        refine lv_aload_n hx hb dX6_fetches_95 rfl (lv_at hl 2 rfl) ?_
        refine lv_aload_n hx hb dX6_fetches_96 rfl (lv_at hl 2 rfl) ?_
        refine fg_X6_memory S hK hP tf_X6_7 dX6_fetches_97 ?_
        refine lv_iload_n hx hb dX6_fetches_100 rfl (lv_at hl 0 rfl) ?_
        refine lv_i2l hx hb dX6_fetches_101 rfl ?_
        refine lv_iconst (v := 4) hx hb dX6_fetches_102 (by decide) ?_
        obtain ⟨v2, e_v2, hf⟩ := Option.bind_eq_some_iff.mp hf
        refine k_X4_read (a0 := v1.toInt64) (a1 := (4 : Int32)) (res := v2) (hres := e_v2) S hK hP tl_X6_94 ⟨Nat.le_of_ble_eq_true rfl, Nat.le_of_ble_eq_true rfl⟩ hl.1 (Nat.le_of_ble_eq_true rfl) dX6_fetches_103 ?_
        refine lv_l2i hx hb dX6_fetches_106 rfl ?_
        refine fp_X6_word (v := v2.toInt32) S hK hP hD hS tf_X6_100 dX6_fetches_107 (fun H locs hP hD hS => ?_)
        refine lv_iconst (v := 1) hx hb dX6_fetches_110 (by decide) ?_
        exact hend true (xuO σ v2.toInt32) H locs 111 ls (Option.some.inj hf) hP hD hS dX6_fetches_111
      · rw [if_neg c_69] at hf
        refine lv_aload_n hx hb dX6_fetches_72 rfl (lv_at hl 2 rfl) ?_
        refine fg_X6_state S hK hP tf_X6_13 dX6_fetches_73 ?_
        refine lv_lload_n hx hb dX6_fetches_76 rfl (lv_at hl 1 rfl) ?_
        refine lv_bipush (v := 32) hx hb dX6_fetches_77 (by decide) ?_
        refine lv_aload_n hx hb dX6_fetches_79 rfl (lv_at hl 2 rfl) ?_
        refine fg_X6_state S hK hP tf_X6_13 dX6_fetches_80 ?_
        refine k_X8_level S hK hP tl_X6_86 ⟨Nat.le_of_ble_eq_true rfl, Nat.le_of_ble_eq_true rfl⟩ hl.1 (Nat.le_of_ble_eq_true rfl) dX6_fetches_83 ?_
        refine lv_iadd hx hb dX6_fetches_86 ?_
        refine lv_iconst (v := -1) hx hb dX6_fetches_87 (by decide) ?_
        refine lv_iload_n hx hb dX6_fetches_88 rfl (lv_at hl 0 rfl) ?_
        refine lv_isub hx hb dX6_fetches_89 ?_
        refine k_X8_raiseAt (a0 := (F_X8_pc σ)) (a1 := ((32 : Int32) + (F_X8_level σ))) (a2 := ((-1 : Int32) - v1)) S hK hA hP hD hS tl_X6_80 ⟨Nat.le_of_ble_eq_true rfl, Nat.le_of_ble_eq_true rfl⟩ hl.1 (Nat.le_of_ble_eq_true rfl) dX6_fetches_90 (fun H locs hP hD hS => ?_)
        refine lv_iconst (v := 0) hx hb dX6_fetches_93 (by decide) ?_
        exact hend false (F_X8_raiseAt σ (F_X8_pc σ) ((32 : Int32) + (F_X8_level σ)) ((-1 : Int32) - v1)) H locs 94 ls (Option.some.inj hf) hP hD hS dX6_fetches_94
    · rw [if_neg c_33] at hf
      refine lv_aload_n hx hb dX6_fetches_37 rfl (lv_at hl 1 rfl) ?_
      refine fg_X6_state S hK hP tf_X6_13 dX6_fetches_38 ?_
      refine lv_lload_n hx hb dX6_fetches_41 rfl (lv_at hl 0 rfl) ?_
      refine lv_bipush (v := 34) hx hb dX6_fetches_42 (by decide) ?_
      refine lv_iconst (v := 0) hx hb dX6_fetches_44 (by decide) ?_
      refine k_X8_raiseAt (a0 := (F_X8_pc σ)) (a1 := (34 : Int32)) (a2 := (0 : Int32)) S hK hA hP hD hS tl_X6_80 ⟨Nat.le_of_ble_eq_true rfl, Nat.le_of_ble_eq_true rfl⟩ hl.1 (Nat.le_of_ble_eq_true rfl) dX6_fetches_45 (fun H locs hP hD hS => ?_)
      refine lv_iconst (v := 0) hx hb dX6_fetches_48 (by decide) ?_
      exact hend false (F_X8_raiseAt σ (F_X8_pc σ) (34 : Int32) (0 : Int32)) H locs 49 ls (Option.some.inj hf) hP hD hS dX6_fetches_49
  · rw [if_pos c_7] at hf
    refine lv_aload_n hx hb dX6_fetches_10 rfl (lv_at hl 0 rfl) ?_
    refine fg_X6_state S hK hP tf_X6_13 dX6_fetches_11 ?_
    refine k_X8_takeInterrupt S hK hA hP hD hS tl_X6_71 ⟨Nat.le_of_ble_eq_true rfl, Nat.le_of_ble_eq_true rfl⟩ hl.1 (Nat.le_of_ble_eq_true rfl) dX6_fetches_14 (fun H locs hP hD hS => ?_)
    refine lv_iconst (v := 0) hx hb dX6_fetches_17 (by decide) ?_
    exact hend false (F_X8_takeInterrupt σ) H locs 18 ls (Option.some.inj hf) hP hD hS dX6_fetches_18
theorem k_X6_fetches {p : Program} {l : Launch} {e : Env} {R : Room} {s : State} {m : MethodId} {args : Array Value} {below : List Frame} {meth : Method} {c : Code} {H : Heap} {locs : List Loc} {Q : State → Prop} {cc : ByteArray} {pc : Nat} {ls : Array Slot} {rest : List Value} {own : String} {index nL : Nat} {A : Nat → Prop} {z : Cx} {r : Nat → Nat} {σ : XS} {res : Bool × XS} (hres : F_X6_fetches σ = some res) (S : CallFix p m c cc nL s args tbG own) (hK : va_K z.1 vwCl (cxT z) s) (hA : ∀ q, s.heap.size ≤ q → A q) (hP : va_P z.1 vwCl (xW z r σ) H) (hD : va_D A (xW z r σ)) (hS : va_S A s.heap H locs) (hl : Cond.methodLink own index yX6_fetches ∈ tbG) (hR : 4 + 1 ≤ R.frames ∧ 8 + (4 + 11) + 110 ≤ R.locals) (hsz : ls.size = nL) (hcat : (rest.map fun v => v.category).sum ≤ 8) (hdg : decode cc pc = .ok (.invokevirtual index, 3)) (kk : ∀ (H : Heap) (locs : List Loc), va_P z.1 vwCl (xW z r res.2) H → va_D A (xW z r res.2) → va_S A s.heap H locs → W p l e R s m args below meth c H locs 0 0 Q (F0 m (pc + 3) ls (.int (zB res.1) :: rest))) : W p l e R s m args below meth c H locs 0 0 Q (F0 m pc ls (.ref (r 6) :: rest)) :=
  km (As := []) (ov := some (.int (zB res.1))) (w' := xW z r res.2) (q0 := 6) (ci := 5) S hK hA hP hD hS (c_X6_fetches l z r σ H.size _ hres) ⟨tb_cB 0 S.2.2.2.2 tc_X6_fetches ti_X6 hl rfl rfl (by decide +kernel) hR, S.2.2.2.2 _ tm_X6_fetches, S.2.2.2.2 _ te_X6_fetches⟩ rfl rfl rfl rfl hsz rfl hcat hdg kk

theorem dX7_right_0 : decode cX7_right 0 = .ok (.aload_n 0, 1) := by decide +kernel
theorem dX7_right_1 : decode cX7_right 1 = .ok (.getfield 7, 3) := by decide +kernel
theorem dX7_right_4 : decode cX7_right 4 = .ok (.iload_n 1, 1) := by decide +kernel
theorem dX7_right_5 : decode cX7_right 5 = .ok (.bipush 16, 2) := by decide +kernel
theorem dX7_right_7 : decode cX7_right 7 = .ok (.iconst 5, 1) := by decide +kernel
theorem dX7_right_8 : decode cX7_right 8 = .ok (.invokestatic 17, 3) := by decide +kernel
theorem dX7_right_11 : decode cX7_right 11 = .ok (.invokevirtual 23, 3) := by decide +kernel
theorem dX7_right_14 : decode cX7_right 14 = .ok (.iload_n 1, 1) := by decide +kernel
theorem dX7_right_15 : decode cX7_right 15 = .ok (.ifCond .ge 7, 3) := by decide +kernel
theorem dX7_right_18 : decode cX7_right 18 = .ok (.iconst 1, 1) := by decide +kernel
theorem dX7_right_19 : decode cX7_right 19 = .ok (.goto 4, 3) := by decide +kernel
theorem dX7_right_22 : decode cX7_right 22 = .ok (.iconst 0, 1) := by decide +kernel
theorem dX7_right_23 : decode cX7_right 23 = .ok (.invokestatic 29, 3) := by decide +kernel
theorem dX7_right_26 : decode cX7_right 26 = .ok (.lreturn, 1) := by decide +kernel
def F_X7_right_c23 (σ : XS) (a0 : Int32) (s0 : Int64) (s1 : Bool) : Int64 := (F_X1_narrow s0 s1)
def F_X7_right (σ : XS) (a0 : Int32) : Int64 := (if 0 ≤ a0 then (F_X7_right_c23 σ a0 (F_X8_register σ (F_X1_field a0 (16 : Int32) (5 : Int32))) false) else (F_X7_right_c23 σ a0 (F_X8_register σ (F_X1_field a0 (16 : Int32) (5 : Int32))) true))
set_option maxHeartbeats 4000000 in
set_option maxRecDepth 100000 in
theorem c_X7_right (l : Launch) (z : Cx) (r : Nat → Nat) (σ : XS) (a0 : Int32) (res : Int64) (hf : F_X7_right σ a0 = res) : Met l yX7_right (wsC yX7_right cX7_right 2 (some .long)) { frames := 2, cells := 0, slots := 0, locals := 42 } (rPc z (xW z r σ) [.ref (r 9), .int a0]) (gS (some (.long res))) 0 0 (fun _ => False) := by
  refine mk_r_l (own := RX7) (by decide) rfl _ (Nat.le_of_ble_eq_true rfl) (fun p e s m below meth c H locs Q ls S hK hP hl hend => ?_)
  have hx := S.1
  have hb := S.2.1
  have hown := S.2.2.2.1
  have hts := S.2.2.2.2
  have hl : lv_has ls 2 [(0, .ref (r 9)), (1, .int a0)] := hl
  have J_c23 : ∀ (s0 : Int64) (s1 : Bool) (ls : Array Slot), F_X7_right_c23 σ a0 s0 s1 = res → lv_has ls 2 [] → W p l e { frames := 2, cells := 0, slots := 0, locals := 42 } s m ([.ref (r 9), .int a0] : List Value).toArray below meth c H locs 0 0 Q (F0 m 23 ls [.int (zB s1), .long s0]) := by
    intro s0 s1 ls hf hl
    unfold F_X7_right_c23 at hf
    refine k_X1_narrow (a0 := s0) (a1 := s1) S tl_X7_29 ⟨Nat.le_of_ble_eq_true rfl, Nat.le_of_ble_eq_true rfl⟩ hl.1 (Nat.le_of_ble_eq_true rfl) dX7_right_23 ?_
    exact hend (F_X1_narrow s0 s1) 26 ls hf dX7_right_26
  unfold F_X7_right at hf
  refine lv_aload_n hx hb dX7_right_0 rfl (lv_at hl 0 rfl) ?_
  refine fg_X7_state S hK hP tf_X7_7 dX7_right_1 ?_
  refine lv_iload_n hx hb dX7_right_4 rfl (lv_at hl 1 rfl) ?_
  refine lv_bipush (v := 16) hx hb dX7_right_5 (by decide) ?_
  refine lv_iconst (v := 5) hx hb dX7_right_7 (by decide) ?_
  refine k_X1_field (a0 := a0) (a1 := (16 : Int32)) (a2 := (5 : Int32)) S tl_X7_17 ⟨Nat.le_of_ble_eq_true rfl, Nat.le_of_ble_eq_true rfl⟩ hl.1 (Nat.le_of_ble_eq_true rfl) dX7_right_8 ?_
  refine k_X8_register (a0 := (F_X1_field a0 (16 : Int32) (5 : Int32))) S hK hP tl_X7_23 ⟨Nat.le_of_ble_eq_true rfl, Nat.le_of_ble_eq_true rfl⟩ hl.1 (Nat.le_of_ble_eq_true rfl) dX7_right_11 ?_
  refine lv_iload_n hx hb dX7_right_14 rfl (lv_at hl 1 rfl) ?_
  refine lv_if_ge (tgt := 22) hx hb dX7_right_15 (by decide) (fun c_15 => ?_) (fun c_15 => ?_)
  · rw [if_pos c_15] at hf
    refine lv_iconst (v := 0) hx hb dX7_right_22 (by decide) ?_
    exact J_c23 (F_X8_register σ (F_X1_field a0 (16 : Int32) (5 : Int32))) false ls hf (lv_sub hl [] rfl)
  · rw [if_neg c_15] at hf
    refine lv_iconst (v := 1) hx hb dX7_right_18 (by decide) ?_
    refine lv_goto (tgt := 23) hx hb dX7_right_19 (by decide) ?_
    exact J_c23 (F_X8_register σ (F_X1_field a0 (16 : Int32) (5 : Int32))) true ls hf (lv_sub hl [] rfl)
theorem k_X7_right {p : Program} {l : Launch} {e : Env} {R : Room} {s : State} {m : MethodId} {args : Array Value} {below : List Frame} {meth : Method} {c : Code} {H : Heap} {locs : List Loc} {Q : State → Prop} {cc : ByteArray} {pc : Nat} {ls : Array Slot} {rest : List Value} {own : String} {index nL : Nat} {z : Cx} {r : Nat → Nat} {σ : XS} {a0 : Int32} (S : CallFix p m c cc nL s args tbG own) (hK : va_K z.1 vwCl (cxT z) s) (hP : va_P z.1 vwCl (xW z r σ) H) (hl : Cond.methodLink own index yX7_right ∈ tbG) (hR : 2 + 1 ≤ R.frames ∧ 8 + (2 + 11) + 42 ≤ R.locals) (hsz : ls.size = nL) (hcat : (rest.map fun v => v.category).sum ≤ 8) (hdg : decode cc pc = .ok (.invokevirtual index, 3)) (kk : W p l e R s m args below meth c H locs 0 0 Q (F0 m (pc + 3) ls (.long (F_X7_right σ a0) :: rest))) : W p l e R s m args below meth c H locs 0 0 Q (F0 m pc ls (.int a0 :: .ref (r 9) :: rest)) :=
  kr (As := [.int a0]) (ov := some (.long (F_X7_right σ a0))) (q0 := 9) (ci := 6) S hK hP (c_X7_right l z r σ a0 _ rfl) ⟨tb_cB 1 S.2.2.2.2 tc_X7_right ti_X7 hl rfl rfl (by decide +kernel) hR, S.2.2.2.2 _ tm_X7_right, S.2.2.2.2 _ te_X7_right⟩ rfl rfl rfl rfl hsz rfl hcat hdg kk

theorem dX7_left_0 : decode cX7_left 0 = .ok (.aload_n 0, 1) := by decide +kernel
theorem dX7_left_1 : decode cX7_left 1 = .ok (.getfield 7, 3) := by decide +kernel
theorem dX7_left_4 : decode cX7_left 4 = .ok (.iload_n 1, 1) := by decide +kernel
theorem dX7_left_5 : decode cX7_left 5 = .ok (.iconst 5, 1) := by decide +kernel
theorem dX7_left_6 : decode cX7_left 6 = .ok (.iconst 5, 1) := by decide +kernel
theorem dX7_left_7 : decode cX7_left 7 = .ok (.invokestatic 17, 3) := by decide +kernel
theorem dX7_left_10 : decode cX7_left 10 = .ok (.invokevirtual 23, 3) := by decide +kernel
theorem dX7_left_13 : decode cX7_left 13 = .ok (.iload_n 1, 1) := by decide +kernel
theorem dX7_left_14 : decode cX7_left 14 = .ok (.ifCond .ge 7, 3) := by decide +kernel
theorem dX7_left_17 : decode cX7_left 17 = .ok (.iconst 1, 1) := by decide +kernel
theorem dX7_left_18 : decode cX7_left 18 = .ok (.goto 4, 3) := by decide +kernel
theorem dX7_left_21 : decode cX7_left 21 = .ok (.iconst 0, 1) := by decide +kernel
theorem dX7_left_22 : decode cX7_left 22 = .ok (.invokestatic 29, 3) := by decide +kernel
theorem dX7_left_25 : decode cX7_left 25 = .ok (.lreturn, 1) := by decide +kernel
def F_X7_left_c22 (σ : XS) (a0 : Int32) (s0 : Int64) (s1 : Bool) : Int64 := (F_X1_narrow s0 s1)
def F_X7_left (σ : XS) (a0 : Int32) : Int64 := (if 0 ≤ a0 then (F_X7_left_c22 σ a0 (F_X8_register σ (F_X1_field a0 (5 : Int32) (5 : Int32))) false) else (F_X7_left_c22 σ a0 (F_X8_register σ (F_X1_field a0 (5 : Int32) (5 : Int32))) true))
set_option maxHeartbeats 4000000 in
set_option maxRecDepth 100000 in
theorem c_X7_left (l : Launch) (z : Cx) (r : Nat → Nat) (σ : XS) (a0 : Int32) (res : Int64) (hf : F_X7_left σ a0 = res) : Met l yX7_left (wsC yX7_left cX7_left 2 (some .long)) { frames := 2, cells := 0, slots := 0, locals := 42 } (rPc z (xW z r σ) [.ref (r 9), .int a0]) (gS (some (.long res))) 0 0 (fun _ => False) := by
  refine mk_r_l (own := RX7) (by decide) rfl _ (Nat.le_of_ble_eq_true rfl) (fun p e s m below meth c H locs Q ls S hK hP hl hend => ?_)
  have hx := S.1
  have hb := S.2.1
  have hown := S.2.2.2.1
  have hts := S.2.2.2.2
  have hl : lv_has ls 2 [(0, .ref (r 9)), (1, .int a0)] := hl
  have J_c22 : ∀ (s0 : Int64) (s1 : Bool) (ls : Array Slot), F_X7_left_c22 σ a0 s0 s1 = res → lv_has ls 2 [] → W p l e { frames := 2, cells := 0, slots := 0, locals := 42 } s m ([.ref (r 9), .int a0] : List Value).toArray below meth c H locs 0 0 Q (F0 m 22 ls [.int (zB s1), .long s0]) := by
    intro s0 s1 ls hf hl
    unfold F_X7_left_c22 at hf
    refine k_X1_narrow (a0 := s0) (a1 := s1) S tl_X7_29 ⟨Nat.le_of_ble_eq_true rfl, Nat.le_of_ble_eq_true rfl⟩ hl.1 (Nat.le_of_ble_eq_true rfl) dX7_left_22 ?_
    exact hend (F_X1_narrow s0 s1) 25 ls hf dX7_left_25
  unfold F_X7_left at hf
  refine lv_aload_n hx hb dX7_left_0 rfl (lv_at hl 0 rfl) ?_
  refine fg_X7_state S hK hP tf_X7_7 dX7_left_1 ?_
  refine lv_iload_n hx hb dX7_left_4 rfl (lv_at hl 1 rfl) ?_
  refine lv_iconst (v := 5) hx hb dX7_left_5 (by decide) ?_
  refine lv_iconst (v := 5) hx hb dX7_left_6 (by decide) ?_
  refine k_X1_field (a0 := a0) (a1 := (5 : Int32)) (a2 := (5 : Int32)) S tl_X7_17 ⟨Nat.le_of_ble_eq_true rfl, Nat.le_of_ble_eq_true rfl⟩ hl.1 (Nat.le_of_ble_eq_true rfl) dX7_left_7 ?_
  refine k_X8_register (a0 := (F_X1_field a0 (5 : Int32) (5 : Int32))) S hK hP tl_X7_23 ⟨Nat.le_of_ble_eq_true rfl, Nat.le_of_ble_eq_true rfl⟩ hl.1 (Nat.le_of_ble_eq_true rfl) dX7_left_10 ?_
  refine lv_iload_n hx hb dX7_left_13 rfl (lv_at hl 1 rfl) ?_
  refine lv_if_ge (tgt := 21) hx hb dX7_left_14 (by decide) (fun c_14 => ?_) (fun c_14 => ?_)
  · rw [if_pos c_14] at hf
    refine lv_iconst (v := 0) hx hb dX7_left_21 (by decide) ?_
    exact J_c22 (F_X8_register σ (F_X1_field a0 (5 : Int32) (5 : Int32))) false ls hf (lv_sub hl [] rfl)
  · rw [if_neg c_14] at hf
    refine lv_iconst (v := 1) hx hb dX7_left_17 (by decide) ?_
    refine lv_goto (tgt := 22) hx hb dX7_left_18 (by decide) ?_
    exact J_c22 (F_X8_register σ (F_X1_field a0 (5 : Int32) (5 : Int32))) true ls hf (lv_sub hl [] rfl)
theorem k_X7_left {p : Program} {l : Launch} {e : Env} {R : Room} {s : State} {m : MethodId} {args : Array Value} {below : List Frame} {meth : Method} {c : Code} {H : Heap} {locs : List Loc} {Q : State → Prop} {cc : ByteArray} {pc : Nat} {ls : Array Slot} {rest : List Value} {own : String} {index nL : Nat} {z : Cx} {r : Nat → Nat} {σ : XS} {a0 : Int32} (S : CallFix p m c cc nL s args tbG own) (hK : va_K z.1 vwCl (cxT z) s) (hP : va_P z.1 vwCl (xW z r σ) H) (hl : Cond.methodLink own index yX7_left ∈ tbG) (hR : 2 + 1 ≤ R.frames ∧ 8 + (2 + 11) + 42 ≤ R.locals) (hsz : ls.size = nL) (hcat : (rest.map fun v => v.category).sum ≤ 8) (hdg : decode cc pc = .ok (.invokevirtual index, 3)) (kk : W p l e R s m args below meth c H locs 0 0 Q (F0 m (pc + 3) ls (.long (F_X7_left σ a0) :: rest))) : W p l e R s m args below meth c H locs 0 0 Q (F0 m pc ls (.int a0 :: .ref (r 9) :: rest)) :=
  kr (As := [.int a0]) (ov := some (.long (F_X7_left σ a0))) (q0 := 9) (ci := 6) S hK hP (c_X7_left l z r σ a0 _ rfl) ⟨tb_cB 1 S.2.2.2.2 tc_X7_left ti_X7 hl rfl rfl (by decide +kernel) hR, S.2.2.2.2 _ tm_X7_left, S.2.2.2.2 _ te_X7_left⟩ rfl rfl rfl rfl hsz rfl hcat hdg kk

theorem dX7_put_0 : decode cX7_put 0 = .ok (.aload_n 0, 1) := by decide +kernel
theorem dX7_put_1 : decode cX7_put 1 = .ok (.getfield 7, 3) := by decide +kernel
theorem dX7_put_4 : decode cX7_put 4 = .ok (.iload_n 1, 1) := by decide +kernel
theorem dX7_put_5 : decode cX7_put 5 = .ok (.iconst 0, 1) := by decide +kernel
theorem dX7_put_6 : decode cX7_put 6 = .ok (.iconst 5, 1) := by decide +kernel
theorem dX7_put_7 : decode cX7_put 7 = .ok (.invokestatic 17, 3) := by decide +kernel
theorem dX7_put_10 : decode cX7_put 10 = .ok (.lload_n 2, 1) := by decide +kernel
theorem dX7_put_11 : decode cX7_put 11 = .ok (.iload_n 1, 1) := by decide +kernel
theorem dX7_put_12 : decode cX7_put 12 = .ok (.ifCond .ge 7, 3) := by decide +kernel
theorem dX7_put_15 : decode cX7_put 15 = .ok (.iconst 1, 1) := by decide +kernel
theorem dX7_put_16 : decode cX7_put 16 = .ok (.goto 4, 3) := by decide +kernel
theorem dX7_put_19 : decode cX7_put 19 = .ok (.iconst 0, 1) := by decide +kernel
theorem dX7_put_20 : decode cX7_put 20 = .ok (.invokestatic 29, 3) := by decide +kernel
theorem dX7_put_23 : decode cX7_put 23 = .ok (.invokevirtual 33, 3) := by decide +kernel
theorem dX7_put_26 : decode cX7_put 26 = .ok (.iconst 1, 1) := by decide +kernel
theorem dX7_put_27 : decode cX7_put 27 = .ok (.ireturn, 1) := by decide +kernel
def F_X7_put_c26 (τ : XS) (a0 : Int32) (a1 : Int64) : Bool × XS := (true, τ)
def F_X7_put_c20 (τ : XS) (a0 : Int32) (a1 : Int64) (s1 : Int32) (s2 : Int64) (s3 : Bool) : Bool × XS := (F_X7_put_c26 (F_X8_putRegister τ s1 (F_X1_narrow s2 s3)) a0 a1)
def F_X7_put (σ : XS) (a0 : Int32) (a1 : Int64) : Bool × XS := (if 0 ≤ a0 then (F_X7_put_c20 σ a0 a1 (F_X1_field a0 (0 : Int32) (5 : Int32)) a1 false) else (F_X7_put_c20 σ a0 a1 (F_X1_field a0 (0 : Int32) (5 : Int32)) a1 true))
set_option maxHeartbeats 4000000 in
set_option maxRecDepth 100000 in
theorem c_X7_put (l : Launch) (z : Cx) (r : Nat → Nat) (σ : XS) (a0 : Int32) (a1 : Int64) (sz : Nat) (res : Bool × XS) (hf : F_X7_put σ a0 a1 = res) : Met l yX7_put (wsC yX7_put cX7_put 4 (some .boolean)) { frames := 2, cells := 0, slots := 0, locals := 46 } (mPc z (xW z r σ) sz [.ref (r 9), .int a0, .long a1]) (gM z (va_A (xW z r σ) sz) (some (.int (zB res.1))) (xW z r res.2)) 0 0 (va_A (xW z r σ) sz) := by
  refine mk_m_z (own := RX7) (wf := xW z r) (by decide) rfl sz _ (Nat.le_of_ble_eq_true rfl) (fun p e s m below meth c A H locs Q ls S hK hA hP hD hS hl hend => ?_)
  have hx := S.1
  have hb := S.2.1
  have hown := S.2.2.2.1
  have hts := S.2.2.2.2
  have hl : lv_has ls 4 [(0, .ref (r 9)), (1, .int a0), (2, .long a1)] := hl
  have J_c26 : ∀ (τ : XS) (H : Heap) (locs : List Loc) (ls : Array Slot), F_X7_put_c26 τ a0 a1 = res → va_P z.1 vwCl (xW z r τ) H → va_D A (xW z r τ) → va_S A s.heap H locs → lv_has ls 4 [] → W p l e { frames := 2, cells := 0, slots := 0, locals := 46 } s m ([.ref (r 9), .int a0, .long a1] : List Value).toArray below meth c H locs 0 0 Q (F0 m 26 ls []) := by
    intro τ H locs ls hf hP hD hS hl
    unfold F_X7_put_c26 at hf
    refine lv_iconst (v := 1) hx hb dX7_put_26 (by decide) ?_
    exact hend true τ H locs 27 ls hf hP hD hS dX7_put_27
  have J_c20 : ∀ (τ : XS) (s1 : Int32) (s2 : Int64) (s3 : Bool) (H : Heap) (locs : List Loc) (ls : Array Slot), F_X7_put_c20 τ a0 a1 s1 s2 s3 = res → va_P z.1 vwCl (xW z r τ) H → va_D A (xW z r τ) → va_S A s.heap H locs → lv_has ls 4 [] → W p l e { frames := 2, cells := 0, slots := 0, locals := 46 } s m ([.ref (r 9), .int a0, .long a1] : List Value).toArray below meth c H locs 0 0 Q (F0 m 20 ls [.int (zB s3), .long s2, .int s1, .ref (r 3)]) := by
    intro τ s1 s2 s3 H locs ls hf hP hD hS hl
    unfold F_X7_put_c20 at hf
    refine k_X1_narrow (a0 := s2) (a1 := s3) S tl_X7_29 ⟨Nat.le_of_ble_eq_true rfl, Nat.le_of_ble_eq_true rfl⟩ hl.1 (Nat.le_of_ble_eq_true rfl) dX7_put_20 ?_
    refine k_X8_putRegister (a0 := s1) (a1 := (F_X1_narrow s2 s3)) S hK hA hP hD hS tl_X7_33 ⟨Nat.le_of_ble_eq_true rfl, Nat.le_of_ble_eq_true rfl⟩ hl.1 (Nat.le_of_ble_eq_true rfl) dX7_put_23 (fun H locs hP hD hS => ?_)
    exact J_c26 (F_X8_putRegister τ s1 (F_X1_narrow s2 s3)) H locs ls hf hP hD hS (lv_sub hl [] rfl)
  unfold F_X7_put at hf
  refine lv_aload_n hx hb dX7_put_0 rfl (lv_at hl 0 rfl) ?_
  refine fg_X7_state S hK hP tf_X7_7 dX7_put_1 ?_
  refine lv_iload_n hx hb dX7_put_4 rfl (lv_at hl 1 rfl) ?_
  refine lv_iconst (v := 0) hx hb dX7_put_5 (by decide) ?_
  refine lv_iconst (v := 5) hx hb dX7_put_6 (by decide) ?_
  refine k_X1_field (a0 := a0) (a1 := (0 : Int32)) (a2 := (5 : Int32)) S tl_X7_17 ⟨Nat.le_of_ble_eq_true rfl, Nat.le_of_ble_eq_true rfl⟩ hl.1 (Nat.le_of_ble_eq_true rfl) dX7_put_7 ?_
  refine lv_lload_n hx hb dX7_put_10 rfl (lv_at hl 2 rfl) ?_
  refine lv_iload_n hx hb dX7_put_11 rfl (lv_at hl 1 rfl) ?_
  refine lv_if_ge (tgt := 19) hx hb dX7_put_12 (by decide) (fun c_12 => ?_) (fun c_12 => ?_)
  · rw [if_pos c_12] at hf
    refine lv_iconst (v := 0) hx hb dX7_put_19 (by decide) ?_
    exact J_c20 σ (F_X1_field a0 (0 : Int32) (5 : Int32)) a1 false H locs ls hf hP hD hS (lv_sub hl [] rfl)
  · rw [if_neg c_12] at hf
    refine lv_iconst (v := 1) hx hb dX7_put_15 (by decide) ?_
    refine lv_goto (tgt := 20) hx hb dX7_put_16 (by decide) ?_
    exact J_c20 σ (F_X1_field a0 (0 : Int32) (5 : Int32)) a1 true H locs ls hf hP hD hS (lv_sub hl [] rfl)
theorem k_X7_put {p : Program} {l : Launch} {e : Env} {R : Room} {s : State} {m : MethodId} {args : Array Value} {below : List Frame} {meth : Method} {c : Code} {H : Heap} {locs : List Loc} {Q : State → Prop} {cc : ByteArray} {pc : Nat} {ls : Array Slot} {rest : List Value} {own : String} {index nL : Nat} {A : Nat → Prop} {z : Cx} {r : Nat → Nat} {σ : XS} {a0 : Int32} {a1 : Int64} (S : CallFix p m c cc nL s args tbG own) (hK : va_K z.1 vwCl (cxT z) s) (hA : ∀ q, s.heap.size ≤ q → A q) (hP : va_P z.1 vwCl (xW z r σ) H) (hD : va_D A (xW z r σ)) (hS : va_S A s.heap H locs) (hl : Cond.methodLink own index yX7_put ∈ tbG) (hR : 2 + 1 ≤ R.frames ∧ 8 + (4 + 11) + 46 ≤ R.locals) (hsz : ls.size = nL) (hcat : (rest.map fun v => v.category).sum ≤ 8) (hdg : decode cc pc = .ok (.invokevirtual index, 3)) (kk : ∀ (H : Heap) (locs : List Loc), va_P z.1 vwCl (xW z r (F_X7_put σ a0 a1).2) H → va_D A (xW z r (F_X7_put σ a0 a1).2) → va_S A s.heap H locs → W p l e R s m args below meth c H locs 0 0 Q (F0 m (pc + 3) ls (.int (zB (F_X7_put σ a0 a1).1) :: rest))) : W p l e R s m args below meth c H locs 0 0 Q (F0 m pc ls (.long a1 :: .int a0 :: .ref (r 9) :: rest)) :=
  km (As := [.int a0, .long a1]) (ov := some (.int (zB (F_X7_put σ a0 a1).1))) (w' := xW z r (F_X7_put σ a0 a1).2) (q0 := 9) (ci := 6) S hK hA hP hD hS (c_X7_put l z r σ a0 a1 H.size _ rfl) ⟨tb_cB 2 S.2.2.2.2 tc_X7_put ti_X7 hl rfl rfl (by decide +kernel) hR, S.2.2.2.2 _ tm_X7_put, S.2.2.2.2 _ te_X7_put⟩ rfl rfl rfl rfl hsz rfl hcat hdg kk

theorem dX7_logic_0 : decode cX7_logic 0 = .ok (.iload_n 1, 1) := by decide +kernel
theorem dX7_logic_1 : decode cX7_logic 1 = .ok (.ifCond .ge 7, 3) := by decide +kernel
theorem dX7_logic_4 : decode cX7_logic 4 = .ok (.iconst 1, 1) := by decide +kernel
theorem dX7_logic_5 : decode cX7_logic 5 = .ok (.goto 4, 3) := by decide +kernel
theorem dX7_logic_8 : decode cX7_logic 8 = .ok (.iconst 0, 1) := by decide +kernel
theorem dX7_logic_9 : decode cX7_logic 9 = .ok (.istore_n 2, 1) := by decide +kernel
theorem dX7_logic_10 : decode cX7_logic 10 = .ok (.iload_n 1, 1) := by decide +kernel
theorem dX7_logic_11 : decode cX7_logic 11 = .ok (.bipush 10, 2) := by decide +kernel
theorem dX7_logic_13 : decode cX7_logic 13 = .ok (.bipush 6, 2) := by decide +kernel
theorem dX7_logic_15 : decode cX7_logic 15 = .ok (.invokestatic 17, 3) := by decide +kernel
theorem dX7_logic_18 : decode cX7_logic 18 = .ok (.istore_n 3, 1) := by decide +kernel
theorem dX7_logic_19 : decode cX7_logic 19 = .ok (.iload_n 3, 1) := by decide +kernel
theorem dX7_logic_20 : decode cX7_logic 20 = .ok (.iload_n 2, 1) := by decide +kernel
theorem dX7_logic_21 : decode cX7_logic 21 = .ok (.invokestatic 41, 3) := by decide +kernel
theorem dX7_logic_24 : decode cX7_logic 24 = .ok (.if_icmp .lt 5, 3) := by decide +kernel
theorem dX7_logic_27 : decode cX7_logic 27 = .ok (.iconst 0, 1) := by decide +kernel
theorem dX7_logic_28 : decode cX7_logic 28 = .ok (.ireturn, 1) := by decide +kernel
theorem dX7_logic_29 : decode cX7_logic 29 = .ok (.aload_n 0, 1) := by decide +kernel
theorem dX7_logic_30 : decode cX7_logic 30 = .ok (.iload_n 1, 1) := by decide +kernel
theorem dX7_logic_31 : decode cX7_logic 31 = .ok (.invokevirtual 45, 3) := by decide +kernel
theorem dX7_logic_34 : decode cX7_logic 34 = .ok (.iload_n 1, 1) := by decide +kernel
theorem dX7_logic_35 : decode cX7_logic 35 = .ok (.bipush 22, 2) := by decide +kernel
theorem dX7_logic_37 : decode cX7_logic 37 = .ok (.iconst 2, 1) := by decide +kernel
theorem dX7_logic_38 : decode cX7_logic 38 = .ok (.invokestatic 17, 3) := by decide +kernel
theorem dX7_logic_41 : decode cX7_logic 41 = .ok (.iload_n 3, 1) := by decide +kernel
theorem dX7_logic_42 : decode cX7_logic 42 = .ok (.iload_n 2, 1) := by decide +kernel
theorem dX7_logic_43 : decode cX7_logic 43 = .ok (.invokestatic 48, 3) := by decide +kernel
theorem dX7_logic_46 : decode cX7_logic 46 = .ok (.lstore 4, 2) := by decide +kernel
theorem dX7_logic_48 : decode cX7_logic 48 = .ok (.iload_n 1, 1) := by decide +kernel
theorem dX7_logic_49 : decode cX7_logic 49 = .ok (.bipush 21, 2) := by decide +kernel
theorem dX7_logic_51 : decode cX7_logic 51 = .ok (.invokestatic 37, 3) := by decide +kernel
theorem dX7_logic_54 : decode cX7_logic 54 = .ok (.ifCond .eq 11, 3) := by decide +kernel
theorem dX7_logic_57 : decode cX7_logic 57 = .ok (.lload 4, 2) := by decide +kernel
theorem dX7_logic_59 : decode cX7_logic 59 = .ok (.ldc2_w 65, 3) := by decide +kernel
theorem dX7_logic_62 : decode cX7_logic 62 = .ok (.lxor, 1) := by decide +kernel
theorem dX7_logic_63 : decode cX7_logic 63 = .ok (.lstore 4, 2) := by decide +kernel
theorem dX7_logic_65 : decode cX7_logic 65 = .ok (.aload_n 0, 1) := by decide +kernel
theorem dX7_logic_66 : decode cX7_logic 66 = .ok (.iload_n 1, 1) := by decide +kernel
theorem dX7_logic_67 : decode cX7_logic 67 = .ok (.aload_n 0, 1) := by decide +kernel
theorem dX7_logic_68 : decode cX7_logic 68 = .ok (.getfield 13, 3) := by decide +kernel
theorem dX7_logic_71 : decode cX7_logic 71 = .ok (.aload_n 0, 1) := by decide +kernel
theorem dX7_logic_72 : decode cX7_logic 72 = .ok (.iload_n 1, 1) := by decide +kernel
theorem dX7_logic_73 : decode cX7_logic 73 = .ok (.invokevirtual 52, 3) := by decide +kernel
theorem dX7_logic_76 : decode cX7_logic 76 = .ok (.lload 4, 2) := by decide +kernel
theorem dX7_logic_78 : decode cX7_logic 78 = .ok (.iload_n 1, 1) := by decide +kernel
theorem dX7_logic_79 : decode cX7_logic 79 = .ok (.bipush 29, 2) := by decide +kernel
theorem dX7_logic_81 : decode cX7_logic 81 = .ok (.iconst 2, 1) := by decide +kernel
theorem dX7_logic_82 : decode cX7_logic 82 = .ok (.invokestatic 17, 3) := by decide +kernel
theorem dX7_logic_85 : decode cX7_logic 85 = .ok (.iload_n 2, 1) := by decide +kernel
theorem dX7_logic_86 : decode cX7_logic 86 = .ok (.invokevirtual 67, 3) := by decide +kernel
theorem dX7_logic_89 : decode cX7_logic 89 = .ok (.invokevirtual 61, 3) := by decide +kernel
theorem dX7_logic_92 : decode cX7_logic 92 = .ok (.ireturn, 1) := by decide +kernel
def F_X7_logic_c89 (τ : XS) (a0 : Int32) (s1 : Int32) (s2 : Int64) : Bool × XS := ((F_X7_put τ s1 s2).1, (F_X7_put τ s1 s2).2)
def F_X7_logic_c65 (τ : XS) (a0 : Int32) (w2 : Bool) (w4 : Int64) : Bool × XS := (F_X7_logic_c89 (F_X9_logic τ (F_X7_left τ a0) w4 (F_X1_field a0 (29 : Int32) (2 : Int32)) w2).2 a0 a0 (F_X9_logic τ (F_X7_left τ a0) w4 (F_X1_field a0 (29 : Int32) (2 : Int32)) w2).1)
def F_X7_logic_c48 (τ : XS) (a0 : Int32) (w2 : Bool) (w4 : Int64) : Bool × XS := (if (F_X1_isOne a0 (21 : Int32)) = true then (F_X7_logic_c65 τ a0 w2 (w4 ^^^ (-1 : Int64))) else (F_X7_logic_c65 τ a0 w2 w4))
def F_X7_logic_c19 (τ : XS) (a0 : Int32) (w2 : Bool) (w3 : Int32) : Bool × XS := (if w3 < (F_X1_width w2) then (F_X7_logic_c48 τ a0 w2 (F_X1_moved (F_X7_right τ a0) (F_X1_field a0 (22 : Int32) (2 : Int32)) w3 w2)) else (false, τ))
def F_X7_logic_c9 (τ : XS) (a0 : Int32) (s0 : Bool) : Bool × XS := (F_X7_logic_c19 τ a0 s0 (F_X1_field a0 (10 : Int32) (6 : Int32)))
def F_X7_logic (σ : XS) (a0 : Int32) : Bool × XS := (if 0 ≤ a0 then (F_X7_logic_c9 σ a0 false) else (F_X7_logic_c9 σ a0 true))
set_option maxHeartbeats 4000000 in
set_option maxRecDepth 100000 in
theorem c_X7_logic (l : Launch) (z : Cx) (r : Nat → Nat) (σ : XS) (a0 : Int32) (sz : Nat) (res : Bool × XS) (hf : F_X7_logic σ a0 = res) : Met l yX7_logic (wsC yX7_logic cX7_logic 6 (some .boolean)) { frames := 3, cells := 0, slots := 0, locals := 70 } (mPc z (xW z r σ) sz [.ref (r 9), .int a0]) (gM z (va_A (xW z r σ) sz) (some (.int (zB res.1))) (xW z r res.2)) 0 0 (va_A (xW z r σ) sz) := by
  refine mk_m_z (own := RX7) (wf := xW z r) (by decide) rfl sz _ (Nat.le_of_ble_eq_true rfl) (fun p e s m below meth c A H locs Q ls S hK hA hP hD hS hl hend => ?_)
  have hx := S.1
  have hb := S.2.1
  have hown := S.2.2.2.1
  have hts := S.2.2.2.2
  have hl : lv_has ls 6 [(0, .ref (r 9)), (1, .int a0)] := hl
  have J_c89 : ∀ (τ : XS) (s1 : Int32) (s2 : Int64) (H : Heap) (locs : List Loc) (ls : Array Slot), F_X7_logic_c89 τ a0 s1 s2 = res → va_P z.1 vwCl (xW z r τ) H → va_D A (xW z r τ) → va_S A s.heap H locs → lv_has ls 6 [] → W p l e { frames := 3, cells := 0, slots := 0, locals := 70 } s m ([.ref (r 9), .int a0] : List Value).toArray below meth c H locs 0 0 Q (F0 m 89 ls [.long s2, .int s1, .ref (r 9)]) := by
    intro τ s1 s2 H locs ls hf hP hD hS hl
    unfold F_X7_logic_c89 at hf
    refine k_X7_put (a0 := s1) (a1 := s2) S hK hA hP hD hS tl_X7_61 ⟨Nat.le_of_ble_eq_true rfl, Nat.le_of_ble_eq_true rfl⟩ hl.1 (Nat.le_of_ble_eq_true rfl) dX7_logic_89 (fun H locs hP hD hS => ?_)
    exact hend (F_X7_put τ s1 s2).1 (F_X7_put τ s1 s2).2 H locs 92 ls hf hP hD hS dX7_logic_92
  have J_c65 : ∀ (τ : XS) (w2 : Bool) (w4 : Int64) (H : Heap) (locs : List Loc) (ls : Array Slot), F_X7_logic_c65 τ a0 w2 w4 = res → va_P z.1 vwCl (xW z r τ) H → va_D A (xW z r τ) → va_S A s.heap H locs → lv_has ls 6 [(0, .ref (r 9)), (1, .int a0), (2, .int (zB w2)), (4, .long w4)] → W p l e { frames := 3, cells := 0, slots := 0, locals := 70 } s m ([.ref (r 9), .int a0] : List Value).toArray below meth c H locs 0 0 Q (F0 m 65 ls []) := by
    intro τ w2 w4 H locs ls hf hP hD hS hl
    unfold F_X7_logic_c65 at hf
    refine lv_aload_n hx hb dX7_logic_65 rfl (lv_at hl 0 rfl) ?_
    refine lv_iload_n hx hb dX7_logic_66 rfl (lv_at hl 1 rfl) ?_
    refine lv_aload_n hx hb dX7_logic_67 rfl (lv_at hl 0 rfl) ?_
    refine fg_X7_sums S hK hP tf_X7_13 dX7_logic_68 ?_
    refine lv_aload_n hx hb dX7_logic_71 rfl (lv_at hl 0 rfl) ?_
    refine lv_iload_n hx hb dX7_logic_72 rfl (lv_at hl 1 rfl) ?_
    refine k_X7_left (a0 := a0) S hK hP tl_X7_52 ⟨Nat.le_of_ble_eq_true rfl, Nat.le_of_ble_eq_true rfl⟩ hl.1 (Nat.le_of_ble_eq_true rfl) dX7_logic_73 ?_
    refine lv_lload hx hb dX7_logic_76 (lv_at hl 3 rfl) ?_
    refine lv_iload_n hx hb dX7_logic_78 rfl (lv_at hl 1 rfl) ?_
    refine lv_bipush (v := 29) hx hb dX7_logic_79 (by decide) ?_
    refine lv_iconst (v := 2) hx hb dX7_logic_81 (by decide) ?_
    refine k_X1_field (a0 := a0) (a1 := (29 : Int32)) (a2 := (2 : Int32)) S tl_X7_17 ⟨Nat.le_of_ble_eq_true rfl, Nat.le_of_ble_eq_true rfl⟩ hl.1 (Nat.le_of_ble_eq_true rfl) dX7_logic_82 ?_
    refine lv_iload_n hx hb dX7_logic_85 rfl (lv_at hl 2 rfl) ?_
    refine k_X9_logic (a0 := (F_X7_left τ a0)) (a1 := w4) (a2 := (F_X1_field a0 (29 : Int32) (2 : Int32))) (a3 := w2) S hK hA hP hD hS tl_X7_67 ⟨Nat.le_of_ble_eq_true rfl, Nat.le_of_ble_eq_true rfl⟩ hl.1 (Nat.le_of_ble_eq_true rfl) dX7_logic_86 (fun H locs hP hD hS => ?_)
    exact J_c89 (F_X9_logic τ (F_X7_left τ a0) w4 (F_X1_field a0 (29 : Int32) (2 : Int32)) w2).2 a0 (F_X9_logic τ (F_X7_left τ a0) w4 (F_X1_field a0 (29 : Int32) (2 : Int32)) w2).1 H locs ls hf hP hD hS (lv_sub hl [] rfl)
  have J_c48 : ∀ (τ : XS) (w2 : Bool) (w4 : Int64) (H : Heap) (locs : List Loc) (ls : Array Slot), F_X7_logic_c48 τ a0 w2 w4 = res → va_P z.1 vwCl (xW z r τ) H → va_D A (xW z r τ) → va_S A s.heap H locs → lv_has ls 6 [(0, .ref (r 9)), (1, .int a0), (2, .int (zB w2)), (4, .long w4)] → W p l e { frames := 3, cells := 0, slots := 0, locals := 70 } s m ([.ref (r 9), .int a0] : List Value).toArray below meth c H locs 0 0 Q (F0 m 48 ls []) := by
    intro τ w2 w4 H locs ls hf hP hD hS hl
    unfold F_X7_logic_c48 at hf
    refine lv_iload_n hx hb dX7_logic_48 rfl (lv_at hl 1 rfl) ?_
    refine lv_bipush (v := 21) hx hb dX7_logic_49 (by decide) ?_
    refine k_X1_isOne (a0 := a0) (a1 := (21 : Int32)) S tl_X7_37 ⟨Nat.le_of_ble_eq_true rfl, Nat.le_of_ble_eq_true rfl⟩ hl.1 (Nat.le_of_ble_eq_true rfl) dX7_logic_51 ?_
    refine gz_eq (tgt := 65) hx hb dX7_logic_54 (by decide) (fun c_54 => ?_) (fun c_54 => ?_)
    · rw [if_neg c_54] at hf
      exact J_c65 τ w2 w4 H locs ls hf hP hD hS (lv_sub hl [0, 1, 2, 3] rfl)
    · rw [if_pos c_54] at hf
      refine lv_lload hx hb dX7_logic_57 (lv_at hl 3 rfl) ?_
      refine lv_ldc2 (v := -1) hx hb hown (hts _ tk_X7_65) dX7_logic_59 ?_
      refine lv_lxor hx hb dX7_logic_62 ?_
      refine lv_lstore (lv' := [(4, .long (w4 ^^^ (-1 : Int64))), (0, .ref (r 9)), (1, .int a0), (2, .int (zB w2))]) hx hb dX7_logic_63 hl (by decide) rfl (fun ls hl => ?_)
      exact J_c65 τ w2 (w4 ^^^ (-1 : Int64)) H locs ls hf hP hD hS (lv_sub hl [1, 2, 3, 0] rfl)
  have J_c19 : ∀ (τ : XS) (w2 : Bool) (w3 : Int32) (H : Heap) (locs : List Loc) (ls : Array Slot), F_X7_logic_c19 τ a0 w2 w3 = res → va_P z.1 vwCl (xW z r τ) H → va_D A (xW z r τ) → va_S A s.heap H locs → lv_has ls 6 [(0, .ref (r 9)), (1, .int a0), (2, .int (zB w2)), (3, .int w3)] → W p l e { frames := 3, cells := 0, slots := 0, locals := 70 } s m ([.ref (r 9), .int a0] : List Value).toArray below meth c H locs 0 0 Q (F0 m 19 ls []) := by
    intro τ w2 w3 H locs ls hf hP hD hS hl
    unfold F_X7_logic_c19 at hf
    refine lv_iload_n hx hb dX7_logic_19 rfl (lv_at hl 3 rfl) ?_
    refine lv_iload_n hx hb dX7_logic_20 rfl (lv_at hl 2 rfl) ?_
    refine k_X1_width (a0 := w2) S tl_X7_41 ⟨Nat.le_of_ble_eq_true rfl, Nat.le_of_ble_eq_true rfl⟩ hl.1 (Nat.le_of_ble_eq_true rfl) dX7_logic_21 ?_
    refine lv_icmp_lt (tgt := 29) hx hb dX7_logic_24 (by decide) (fun c_24 => ?_) (fun c_24 => ?_)
    · rw [if_pos c_24] at hf
      refine lv_aload_n hx hb dX7_logic_29 rfl (lv_at hl 0 rfl) ?_
      refine lv_iload_n hx hb dX7_logic_30 rfl (lv_at hl 1 rfl) ?_
      refine k_X7_right (a0 := a0) S hK hP tl_X7_45 ⟨Nat.le_of_ble_eq_true rfl, Nat.le_of_ble_eq_true rfl⟩ hl.1 (Nat.le_of_ble_eq_true rfl) dX7_logic_31 ?_
      refine lv_iload_n hx hb dX7_logic_34 rfl (lv_at hl 1 rfl) ?_
      refine lv_bipush (v := 22) hx hb dX7_logic_35 (by decide) ?_
      refine lv_iconst (v := 2) hx hb dX7_logic_37 (by decide) ?_
      refine k_X1_field (a0 := a0) (a1 := (22 : Int32)) (a2 := (2 : Int32)) S tl_X7_17 ⟨Nat.le_of_ble_eq_true rfl, Nat.le_of_ble_eq_true rfl⟩ hl.1 (Nat.le_of_ble_eq_true rfl) dX7_logic_38 ?_
      refine lv_iload_n hx hb dX7_logic_41 rfl (lv_at hl 3 rfl) ?_
      refine lv_iload_n hx hb dX7_logic_42 rfl (lv_at hl 2 rfl) ?_
      refine k_X1_moved (a0 := (F_X7_right τ a0)) (a1 := (F_X1_field a0 (22 : Int32) (2 : Int32))) (a2 := w3) (a3 := w2) S tl_X7_48 ⟨Nat.le_of_ble_eq_true rfl, Nat.le_of_ble_eq_true rfl⟩ hl.1 (Nat.le_of_ble_eq_true rfl) dX7_logic_43 ?_
      refine lv_lstore (lv' := [(4, .long (F_X1_moved (F_X7_right τ a0) (F_X1_field a0 (22 : Int32) (2 : Int32)) w3 w2)), (0, .ref (r 9)), (1, .int a0), (2, .int (zB w2)), (3, .int w3)]) hx hb dX7_logic_46 hl (by decide) rfl (fun ls hl => ?_)
      exact J_c48 τ w2 (F_X1_moved (F_X7_right τ a0) (F_X1_field a0 (22 : Int32) (2 : Int32)) w3 w2) H locs ls hf hP hD hS (lv_sub hl [1, 2, 3, 0] rfl)
    · rw [if_neg c_24] at hf
      refine lv_iconst (v := 0) hx hb dX7_logic_27 (by decide) ?_
      exact hend false τ H locs 28 ls hf hP hD hS dX7_logic_28
  have J_c9 : ∀ (τ : XS) (s0 : Bool) (H : Heap) (locs : List Loc) (ls : Array Slot), F_X7_logic_c9 τ a0 s0 = res → va_P z.1 vwCl (xW z r τ) H → va_D A (xW z r τ) → va_S A s.heap H locs → lv_has ls 6 [(0, .ref (r 9)), (1, .int a0)] → W p l e { frames := 3, cells := 0, slots := 0, locals := 70 } s m ([.ref (r 9), .int a0] : List Value).toArray below meth c H locs 0 0 Q (F0 m 9 ls [.int (zB s0)]) := by
    intro τ s0 H locs ls hf hP hD hS hl
    unfold F_X7_logic_c9 at hf
    refine lv_istore_n (lv' := [(2, .int (zB s0)), (0, .ref (r 9)), (1, .int a0)]) hx hb dX7_logic_9 rfl hl (by decide) rfl (fun ls hl => ?_)
    refine lv_iload_n hx hb dX7_logic_10 rfl (lv_at hl 2 rfl) ?_
    refine lv_bipush (v := 10) hx hb dX7_logic_11 (by decide) ?_
    refine lv_bipush (v := 6) hx hb dX7_logic_13 (by decide) ?_
    refine k_X1_field (a0 := a0) (a1 := (10 : Int32)) (a2 := (6 : Int32)) S tl_X7_17 ⟨Nat.le_of_ble_eq_true rfl, Nat.le_of_ble_eq_true rfl⟩ hl.1 (Nat.le_of_ble_eq_true rfl) dX7_logic_15 ?_
    refine lv_istore_n (lv' := [(3, .int (F_X1_field a0 (10 : Int32) (6 : Int32))), (2, .int (zB s0)), (0, .ref (r 9)), (1, .int a0)]) hx hb dX7_logic_18 rfl hl (by decide) rfl (fun ls hl => ?_)
    exact J_c19 τ s0 (F_X1_field a0 (10 : Int32) (6 : Int32)) H locs ls hf hP hD hS (lv_sub hl [2, 3, 1, 0] rfl)
  unfold F_X7_logic at hf
  refine lv_iload_n hx hb dX7_logic_0 rfl (lv_at hl 1 rfl) ?_
  refine lv_if_ge (tgt := 8) hx hb dX7_logic_1 (by decide) (fun c_1 => ?_) (fun c_1 => ?_)
  · rw [if_pos c_1] at hf
    refine lv_iconst (v := 0) hx hb dX7_logic_8 (by decide) ?_
    exact J_c9 σ false H locs ls hf hP hD hS (lv_sub hl [0, 1] rfl)
  · rw [if_neg c_1] at hf
    refine lv_iconst (v := 1) hx hb dX7_logic_4 (by decide) ?_
    refine lv_goto (tgt := 9) hx hb dX7_logic_5 (by decide) ?_
    exact J_c9 σ true H locs ls hf hP hD hS (lv_sub hl [0, 1] rfl)
theorem k_X7_logic {p : Program} {l : Launch} {e : Env} {R : Room} {s : State} {m : MethodId} {args : Array Value} {below : List Frame} {meth : Method} {c : Code} {H : Heap} {locs : List Loc} {Q : State → Prop} {cc : ByteArray} {pc : Nat} {ls : Array Slot} {rest : List Value} {own : String} {index nL : Nat} {A : Nat → Prop} {z : Cx} {r : Nat → Nat} {σ : XS} {a0 : Int32} (S : CallFix p m c cc nL s args tbG own) (hK : va_K z.1 vwCl (cxT z) s) (hA : ∀ q, s.heap.size ≤ q → A q) (hP : va_P z.1 vwCl (xW z r σ) H) (hD : va_D A (xW z r σ)) (hS : va_S A s.heap H locs) (hl : Cond.methodLink own index yX7_logic ∈ tbG) (hR : 3 + 1 ≤ R.frames ∧ 8 + (6 + 11) + 70 ≤ R.locals) (hsz : ls.size = nL) (hcat : (rest.map fun v => v.category).sum ≤ 8) (hdg : decode cc pc = .ok (.invokevirtual index, 3)) (kk : ∀ (H : Heap) (locs : List Loc), va_P z.1 vwCl (xW z r (F_X7_logic σ a0).2) H → va_D A (xW z r (F_X7_logic σ a0).2) → va_S A s.heap H locs → W p l e R s m args below meth c H locs 0 0 Q (F0 m (pc + 3) ls (.int (zB (F_X7_logic σ a0).1) :: rest))) : W p l e R s m args below meth c H locs 0 0 Q (F0 m pc ls (.int a0 :: .ref (r 9) :: rest)) :=
  km (As := [.int a0]) (ov := some (.int (zB (F_X7_logic σ a0).1))) (w' := xW z r (F_X7_logic σ a0).2) (q0 := 9) (ci := 6) S hK hA hP hD hS (c_X7_logic l z r σ a0 H.size _ rfl) ⟨tb_cB 1 S.2.2.2.2 tc_X7_logic ti_X7 hl rfl rfl (by decide +kernel) hR, S.2.2.2.2 _ tm_X7_logic, S.2.2.2.2 _ te_X7_logic⟩ rfl rfl rfl rfl hsz rfl hcat hdg kk

theorem dX7_sum_0 : decode cX7_sum 0 = .ok (.iload_n 1, 1) := by decide +kernel
theorem dX7_sum_1 : decode cX7_sum 1 = .ok (.ifCond .ge 7, 3) := by decide +kernel
theorem dX7_sum_4 : decode cX7_sum 4 = .ok (.iconst 1, 1) := by decide +kernel
theorem dX7_sum_5 : decode cX7_sum 5 = .ok (.goto 4, 3) := by decide +kernel
theorem dX7_sum_8 : decode cX7_sum 8 = .ok (.iconst 0, 1) := by decide +kernel
theorem dX7_sum_9 : decode cX7_sum 9 = .ok (.istore_n 2, 1) := by decide +kernel
theorem dX7_sum_10 : decode cX7_sum 10 = .ok (.iload_n 1, 1) := by decide +kernel
theorem dX7_sum_11 : decode cX7_sum 11 = .ok (.bipush 22, 2) := by decide +kernel
theorem dX7_sum_13 : decode cX7_sum 13 = .ok (.iconst 2, 1) := by decide +kernel
theorem dX7_sum_14 : decode cX7_sum 14 = .ok (.invokestatic 17, 3) := by decide +kernel
theorem dX7_sum_17 : decode cX7_sum 17 = .ok (.istore_n 3, 1) := by decide +kernel
theorem dX7_sum_18 : decode cX7_sum 18 = .ok (.iload_n 1, 1) := by decide +kernel
theorem dX7_sum_19 : decode cX7_sum 19 = .ok (.bipush 10, 2) := by decide +kernel
theorem dX7_sum_21 : decode cX7_sum 21 = .ok (.bipush 6, 2) := by decide +kernel
theorem dX7_sum_23 : decode cX7_sum 23 = .ok (.invokestatic 17, 3) := by decide +kernel
theorem dX7_sum_26 : decode cX7_sum 26 = .ok (.istore 4, 2) := by decide +kernel
theorem dX7_sum_28 : decode cX7_sum 28 = .ok (.iload_n 1, 1) := by decide +kernel
theorem dX7_sum_29 : decode cX7_sum 29 = .ok (.bipush 21, 2) := by decide +kernel
theorem dX7_sum_31 : decode cX7_sum 31 = .ok (.invokestatic 37, 3) := by decide +kernel
theorem dX7_sum_34 : decode cX7_sum 34 = .ok (.ifCond .ne 17, 3) := by decide +kernel
theorem dX7_sum_37 : decode cX7_sum 37 = .ok (.iload_n 3, 1) := by decide +kernel
theorem dX7_sum_38 : decode cX7_sum 38 = .ok (.iconst 3, 1) := by decide +kernel
theorem dX7_sum_39 : decode cX7_sum 39 = .ok (.if_icmp .eq 12, 3) := by decide +kernel
theorem dX7_sum_42 : decode cX7_sum 42 = .ok (.iload 4, 2) := by decide +kernel
theorem dX7_sum_44 : decode cX7_sum 44 = .ok (.iload_n 2, 1) := by decide +kernel
theorem dX7_sum_45 : decode cX7_sum 45 = .ok (.invokestatic 41, 3) := by decide +kernel
theorem dX7_sum_48 : decode cX7_sum 48 = .ok (.if_icmp .lt 5, 3) := by decide +kernel
theorem dX7_sum_51 : decode cX7_sum 51 = .ok (.iconst 0, 1) := by decide +kernel
theorem dX7_sum_52 : decode cX7_sum 52 = .ok (.ireturn, 1) := by decide +kernel
theorem dX7_sum_53 : decode cX7_sum 53 = .ok (.aload_n 0, 1) := by decide +kernel
theorem dX7_sum_54 : decode cX7_sum 54 = .ok (.iload_n 1, 1) := by decide +kernel
theorem dX7_sum_55 : decode cX7_sum 55 = .ok (.invokevirtual 45, 3) := by decide +kernel
theorem dX7_sum_58 : decode cX7_sum 58 = .ok (.iload_n 3, 1) := by decide +kernel
theorem dX7_sum_59 : decode cX7_sum 59 = .ok (.iload 4, 2) := by decide +kernel
theorem dX7_sum_61 : decode cX7_sum 61 = .ok (.iload_n 2, 1) := by decide +kernel
theorem dX7_sum_62 : decode cX7_sum 62 = .ok (.invokestatic 48, 3) := by decide +kernel
theorem dX7_sum_65 : decode cX7_sum 65 = .ok (.lstore 5, 2) := by decide +kernel
theorem dX7_sum_67 : decode cX7_sum 67 = .ok (.iload_n 1, 1) := by decide +kernel
theorem dX7_sum_68 : decode cX7_sum 68 = .ok (.bipush 29, 2) := by decide +kernel
theorem dX7_sum_70 : decode cX7_sum 70 = .ok (.invokestatic 37, 3) := by decide +kernel
theorem dX7_sum_73 : decode cX7_sum 73 = .ok (.istore 7, 2) := by decide +kernel
theorem dX7_sum_75 : decode cX7_sum 75 = .ok (.aload_n 0, 1) := by decide +kernel
theorem dX7_sum_76 : decode cX7_sum 76 = .ok (.iload_n 1, 1) := by decide +kernel
theorem dX7_sum_77 : decode cX7_sum 77 = .ok (.aload_n 0, 1) := by decide +kernel
theorem dX7_sum_78 : decode cX7_sum 78 = .ok (.getfield 13, 3) := by decide +kernel
theorem dX7_sum_81 : decode cX7_sum 81 = .ok (.aload_n 0, 1) := by decide +kernel
theorem dX7_sum_82 : decode cX7_sum 82 = .ok (.iload_n 1, 1) := by decide +kernel
theorem dX7_sum_83 : decode cX7_sum 83 = .ok (.invokevirtual 52, 3) := by decide +kernel
theorem dX7_sum_86 : decode cX7_sum 86 = .ok (.lload 5, 2) := by decide +kernel
theorem dX7_sum_88 : decode cX7_sum 88 = .ok (.iload_n 1, 1) := by decide +kernel
theorem dX7_sum_89 : decode cX7_sum 89 = .ok (.bipush 30, 2) := by decide +kernel
theorem dX7_sum_91 : decode cX7_sum 91 = .ok (.invokestatic 37, 3) := by decide +kernel
theorem dX7_sum_94 : decode cX7_sum 94 = .ok (.iload_n 2, 1) := by decide +kernel
theorem dX7_sum_95 : decode cX7_sum 95 = .ok (.iload 7, 2) := by decide +kernel
theorem dX7_sum_97 : decode cX7_sum 97 = .ok (.invokevirtual 55, 3) := by decide +kernel
theorem dX7_sum_100 : decode cX7_sum 100 = .ok (.invokevirtual 61, 3) := by decide +kernel
theorem dX7_sum_103 : decode cX7_sum 103 = .ok (.ireturn, 1) := by decide +kernel
def F_X7_sum_c100 (τ : XS) (a0 : Int32) (s1 : Int32) (s2 : Int64) : Bool × XS := ((F_X7_put τ s1 s2).1, (F_X7_put τ s1 s2).2)
def F_X7_sum_c28 (τ : XS) (a0 : Int32) (w2 : Bool) (w3 : Int32) (w4 : Int32) : Bool × XS := (if (F_X1_isOne a0 (21 : Int32)) = true then (false, τ) else (if w3 = (3 : Int32) then (false, τ) else (if w4 < (F_X1_width w2) then (F_X7_sum_c100 (F_X9_sum τ (F_X7_left τ a0) (F_X1_moved (F_X7_right τ a0) w3 w4 w2) (F_X1_isOne a0 (30 : Int32)) w2 (F_X1_isOne a0 (29 : Int32))).2 a0 a0 (F_X9_sum τ (F_X7_left τ a0) (F_X1_moved (F_X7_right τ a0) w3 w4 w2) (F_X1_isOne a0 (30 : Int32)) w2 (F_X1_isOne a0 (29 : Int32))).1) else (false, τ))))
def F_X7_sum_c18 (τ : XS) (a0 : Int32) (w2 : Bool) (w3 : Int32) : Bool × XS := (F_X7_sum_c28 τ a0 w2 w3 (F_X1_field a0 (10 : Int32) (6 : Int32)))
def F_X7_sum_c9 (τ : XS) (a0 : Int32) (s0 : Bool) : Bool × XS := (F_X7_sum_c18 τ a0 s0 (F_X1_field a0 (22 : Int32) (2 : Int32)))
def F_X7_sum (σ : XS) (a0 : Int32) : Bool × XS := (if 0 ≤ a0 then (F_X7_sum_c9 σ a0 false) else (F_X7_sum_c9 σ a0 true))
set_option maxHeartbeats 4000000 in
set_option maxRecDepth 100000 in
theorem c_X7_sum (l : Launch) (z : Cx) (r : Nat → Nat) (σ : XS) (a0 : Int32) (sz : Nat) (res : Bool × XS) (hf : F_X7_sum σ a0 = res) : Met l yX7_sum (wsC yX7_sum cX7_sum 8 (some .boolean)) { frames := 3, cells := 0, slots := 0, locals := 80 } (mPc z (xW z r σ) sz [.ref (r 9), .int a0]) (gM z (va_A (xW z r σ) sz) (some (.int (zB res.1))) (xW z r res.2)) 0 0 (va_A (xW z r σ) sz) := by
  refine mk_m_z (own := RX7) (wf := xW z r) (by decide) rfl sz _ (Nat.le_of_ble_eq_true rfl) (fun p e s m below meth c A H locs Q ls S hK hA hP hD hS hl hend => ?_)
  have hx := S.1
  have hb := S.2.1
  have hown := S.2.2.2.1
  have hts := S.2.2.2.2
  have hl : lv_has ls 8 [(0, .ref (r 9)), (1, .int a0)] := hl
  have J_c100 : ∀ (τ : XS) (s1 : Int32) (s2 : Int64) (H : Heap) (locs : List Loc) (ls : Array Slot), F_X7_sum_c100 τ a0 s1 s2 = res → va_P z.1 vwCl (xW z r τ) H → va_D A (xW z r τ) → va_S A s.heap H locs → lv_has ls 8 [] → W p l e { frames := 3, cells := 0, slots := 0, locals := 80 } s m ([.ref (r 9), .int a0] : List Value).toArray below meth c H locs 0 0 Q (F0 m 100 ls [.long s2, .int s1, .ref (r 9)]) := by
    intro τ s1 s2 H locs ls hf hP hD hS hl
    unfold F_X7_sum_c100 at hf
    refine k_X7_put (a0 := s1) (a1 := s2) S hK hA hP hD hS tl_X7_61 ⟨Nat.le_of_ble_eq_true rfl, Nat.le_of_ble_eq_true rfl⟩ hl.1 (Nat.le_of_ble_eq_true rfl) dX7_sum_100 (fun H locs hP hD hS => ?_)
    exact hend (F_X7_put τ s1 s2).1 (F_X7_put τ s1 s2).2 H locs 103 ls hf hP hD hS dX7_sum_103
  have J_c28 : ∀ (τ : XS) (w2 : Bool) (w3 : Int32) (w4 : Int32) (H : Heap) (locs : List Loc) (ls : Array Slot), F_X7_sum_c28 τ a0 w2 w3 w4 = res → va_P z.1 vwCl (xW z r τ) H → va_D A (xW z r τ) → va_S A s.heap H locs → lv_has ls 8 [(0, .ref (r 9)), (1, .int a0), (2, .int (zB w2)), (3, .int w3), (4, .int w4)] → W p l e { frames := 3, cells := 0, slots := 0, locals := 80 } s m ([.ref (r 9), .int a0] : List Value).toArray below meth c H locs 0 0 Q (F0 m 28 ls []) := by
    intro τ w2 w3 w4 H locs ls hf hP hD hS hl
    unfold F_X7_sum_c28 at hf
    refine lv_iload_n hx hb dX7_sum_28 rfl (lv_at hl 1 rfl) ?_
    refine lv_bipush (v := 21) hx hb dX7_sum_29 (by decide) ?_
    refine k_X1_isOne (a0 := a0) (a1 := (21 : Int32)) S tl_X7_37 ⟨Nat.le_of_ble_eq_true rfl, Nat.le_of_ble_eq_true rfl⟩ hl.1 (Nat.le_of_ble_eq_true rfl) dX7_sum_31 ?_
    refine gz_ne (tgt := 51) hx hb dX7_sum_34 (by decide) (fun c_34 => ?_) (fun c_34 => ?_)
    · rw [if_pos c_34] at hf
      refine lv_iconst (v := 0) hx hb dX7_sum_51 (by decide) ?_
      exact hend false τ H locs 52 ls hf hP hD hS dX7_sum_52
    · rw [if_neg c_34] at hf
      refine lv_iload_n hx hb dX7_sum_37 rfl (lv_at hl 3 rfl) ?_
      refine lv_iconst (v := 3) hx hb dX7_sum_38 (by decide) ?_
      refine lv_icmp_eq (tgt := 51) hx hb dX7_sum_39 (by decide) (fun c_39 => ?_) (fun c_39 => ?_)
      · rw [if_pos c_39] at hf
        refine lv_iconst (v := 0) hx hb dX7_sum_51 (by decide) ?_
        exact hend false τ H locs 52 ls hf hP hD hS dX7_sum_52
      · rw [if_neg c_39] at hf
        refine lv_iload hx hb dX7_sum_42 (lv_at hl 4 rfl) ?_
        refine lv_iload_n hx hb dX7_sum_44 rfl (lv_at hl 2 rfl) ?_
        refine k_X1_width (a0 := w2) S tl_X7_41 ⟨Nat.le_of_ble_eq_true rfl, Nat.le_of_ble_eq_true rfl⟩ hl.1 (Nat.le_of_ble_eq_true rfl) dX7_sum_45 ?_
        refine lv_icmp_lt (tgt := 53) hx hb dX7_sum_48 (by decide) (fun c_48 => ?_) (fun c_48 => ?_)
        · rw [if_pos c_48] at hf
          refine lv_aload_n hx hb dX7_sum_53 rfl (lv_at hl 0 rfl) ?_
          refine lv_iload_n hx hb dX7_sum_54 rfl (lv_at hl 1 rfl) ?_
          refine k_X7_right (a0 := a0) S hK hP tl_X7_45 ⟨Nat.le_of_ble_eq_true rfl, Nat.le_of_ble_eq_true rfl⟩ hl.1 (Nat.le_of_ble_eq_true rfl) dX7_sum_55 ?_
          refine lv_iload_n hx hb dX7_sum_58 rfl (lv_at hl 3 rfl) ?_
          refine lv_iload hx hb dX7_sum_59 (lv_at hl 4 rfl) ?_
          refine lv_iload_n hx hb dX7_sum_61 rfl (lv_at hl 2 rfl) ?_
          refine k_X1_moved (a0 := (F_X7_right τ a0)) (a1 := w3) (a2 := w4) (a3 := w2) S tl_X7_48 ⟨Nat.le_of_ble_eq_true rfl, Nat.le_of_ble_eq_true rfl⟩ hl.1 (Nat.le_of_ble_eq_true rfl) dX7_sum_62 ?_
          refine lv_lstore (lv' := [(5, .long (F_X1_moved (F_X7_right τ a0) w3 w4 w2)), (0, .ref (r 9)), (1, .int a0), (2, .int (zB w2)), (3, .int w3), (4, .int w4)]) hx hb dX7_sum_65 hl (by decide) rfl (fun ls hl => ?_)
          refine lv_iload_n hx hb dX7_sum_67 rfl (lv_at hl 2 rfl) ?_
          refine lv_bipush (v := 29) hx hb dX7_sum_68 (by decide) ?_
          refine k_X1_isOne (a0 := a0) (a1 := (29 : Int32)) S tl_X7_37 ⟨Nat.le_of_ble_eq_true rfl, Nat.le_of_ble_eq_true rfl⟩ hl.1 (Nat.le_of_ble_eq_true rfl) dX7_sum_70 ?_
          refine lv_istore (lv' := [(7, .int (zB (F_X1_isOne a0 (29 : Int32)))), (5, .long (F_X1_moved (F_X7_right τ a0) w3 w4 w2)), (0, .ref (r 9)), (1, .int a0), (2, .int (zB w2)), (3, .int w3), (4, .int w4)]) hx hb dX7_sum_73 hl (by decide) rfl (fun ls hl => ?_)
          refine lv_aload_n hx hb dX7_sum_75 rfl (lv_at hl 2 rfl) ?_
          refine lv_iload_n hx hb dX7_sum_76 rfl (lv_at hl 3 rfl) ?_
          refine lv_aload_n hx hb dX7_sum_77 rfl (lv_at hl 2 rfl) ?_
          refine fg_X7_sums S hK hP tf_X7_13 dX7_sum_78 ?_
          refine lv_aload_n hx hb dX7_sum_81 rfl (lv_at hl 2 rfl) ?_
          refine lv_iload_n hx hb dX7_sum_82 rfl (lv_at hl 3 rfl) ?_
          refine k_X7_left (a0 := a0) S hK hP tl_X7_52 ⟨Nat.le_of_ble_eq_true rfl, Nat.le_of_ble_eq_true rfl⟩ hl.1 (Nat.le_of_ble_eq_true rfl) dX7_sum_83 ?_
          refine lv_lload hx hb dX7_sum_86 (lv_at hl 1 rfl) ?_
          refine lv_iload_n hx hb dX7_sum_88 rfl (lv_at hl 3 rfl) ?_
          refine lv_bipush (v := 30) hx hb dX7_sum_89 (by decide) ?_
          refine k_X1_isOne (a0 := a0) (a1 := (30 : Int32)) S tl_X7_37 ⟨Nat.le_of_ble_eq_true rfl, Nat.le_of_ble_eq_true rfl⟩ hl.1 (Nat.le_of_ble_eq_true rfl) dX7_sum_91 ?_
          refine lv_iload_n hx hb dX7_sum_94 rfl (lv_at hl 4 rfl) ?_
          refine lv_iload hx hb dX7_sum_95 (lv_at hl 0 rfl) ?_
          refine k_X9_sum (a0 := (F_X7_left τ a0)) (a1 := (F_X1_moved (F_X7_right τ a0) w3 w4 w2)) (a2 := (F_X1_isOne a0 (30 : Int32))) (a3 := w2) (a4 := (F_X1_isOne a0 (29 : Int32))) S hK hA hP hD hS tl_X7_55 ⟨Nat.le_of_ble_eq_true rfl, Nat.le_of_ble_eq_true rfl⟩ hl.1 (Nat.le_of_ble_eq_true rfl) dX7_sum_97 (fun H locs hP hD hS => ?_)
          exact J_c100 (F_X9_sum τ (F_X7_left τ a0) (F_X1_moved (F_X7_right τ a0) w3 w4 w2) (F_X1_isOne a0 (30 : Int32)) w2 (F_X1_isOne a0 (29 : Int32))).2 a0 (F_X9_sum τ (F_X7_left τ a0) (F_X1_moved (F_X7_right τ a0) w3 w4 w2) (F_X1_isOne a0 (30 : Int32)) w2 (F_X1_isOne a0 (29 : Int32))).1 H locs ls hf hP hD hS (lv_sub hl [] rfl)
        · rw [if_neg c_48] at hf
          refine lv_iconst (v := 0) hx hb dX7_sum_51 (by decide) ?_
          exact hend false τ H locs 52 ls hf hP hD hS dX7_sum_52
  have J_c18 : ∀ (τ : XS) (w2 : Bool) (w3 : Int32) (H : Heap) (locs : List Loc) (ls : Array Slot), F_X7_sum_c18 τ a0 w2 w3 = res → va_P z.1 vwCl (xW z r τ) H → va_D A (xW z r τ) → va_S A s.heap H locs → lv_has ls 8 [(0, .ref (r 9)), (1, .int a0), (2, .int (zB w2)), (3, .int w3)] → W p l e { frames := 3, cells := 0, slots := 0, locals := 80 } s m ([.ref (r 9), .int a0] : List Value).toArray below meth c H locs 0 0 Q (F0 m 18 ls []) := by
    intro τ w2 w3 H locs ls hf hP hD hS hl
    unfold F_X7_sum_c18 at hf
    refine lv_iload_n hx hb dX7_sum_18 rfl (lv_at hl 1 rfl) ?_
    refine lv_bipush (v := 10) hx hb dX7_sum_19 (by decide) ?_
    refine lv_bipush (v := 6) hx hb dX7_sum_21 (by decide) ?_
    refine k_X1_field (a0 := a0) (a1 := (10 : Int32)) (a2 := (6 : Int32)) S tl_X7_17 ⟨Nat.le_of_ble_eq_true rfl, Nat.le_of_ble_eq_true rfl⟩ hl.1 (Nat.le_of_ble_eq_true rfl) dX7_sum_23 ?_
    refine lv_istore (lv' := [(4, .int (F_X1_field a0 (10 : Int32) (6 : Int32))), (0, .ref (r 9)), (1, .int a0), (2, .int (zB w2)), (3, .int w3)]) hx hb dX7_sum_26 hl (by decide) rfl (fun ls hl => ?_)
    exact J_c28 τ w2 w3 (F_X1_field a0 (10 : Int32) (6 : Int32)) H locs ls hf hP hD hS (lv_sub hl [1, 2, 3, 4, 0] rfl)
  have J_c9 : ∀ (τ : XS) (s0 : Bool) (H : Heap) (locs : List Loc) (ls : Array Slot), F_X7_sum_c9 τ a0 s0 = res → va_P z.1 vwCl (xW z r τ) H → va_D A (xW z r τ) → va_S A s.heap H locs → lv_has ls 8 [(0, .ref (r 9)), (1, .int a0)] → W p l e { frames := 3, cells := 0, slots := 0, locals := 80 } s m ([.ref (r 9), .int a0] : List Value).toArray below meth c H locs 0 0 Q (F0 m 9 ls [.int (zB s0)]) := by
    intro τ s0 H locs ls hf hP hD hS hl
    unfold F_X7_sum_c9 at hf
    refine lv_istore_n (lv' := [(2, .int (zB s0)), (0, .ref (r 9)), (1, .int a0)]) hx hb dX7_sum_9 rfl hl (by decide) rfl (fun ls hl => ?_)
    refine lv_iload_n hx hb dX7_sum_10 rfl (lv_at hl 2 rfl) ?_
    refine lv_bipush (v := 22) hx hb dX7_sum_11 (by decide) ?_
    refine lv_iconst (v := 2) hx hb dX7_sum_13 (by decide) ?_
    refine k_X1_field (a0 := a0) (a1 := (22 : Int32)) (a2 := (2 : Int32)) S tl_X7_17 ⟨Nat.le_of_ble_eq_true rfl, Nat.le_of_ble_eq_true rfl⟩ hl.1 (Nat.le_of_ble_eq_true rfl) dX7_sum_14 ?_
    refine lv_istore_n (lv' := [(3, .int (F_X1_field a0 (22 : Int32) (2 : Int32))), (2, .int (zB s0)), (0, .ref (r 9)), (1, .int a0)]) hx hb dX7_sum_17 rfl hl (by decide) rfl (fun ls hl => ?_)
    exact J_c18 τ s0 (F_X1_field a0 (22 : Int32) (2 : Int32)) H locs ls hf hP hD hS (lv_sub hl [2, 3, 1, 0] rfl)
  unfold F_X7_sum at hf
  refine lv_iload_n hx hb dX7_sum_0 rfl (lv_at hl 1 rfl) ?_
  refine lv_if_ge (tgt := 8) hx hb dX7_sum_1 (by decide) (fun c_1 => ?_) (fun c_1 => ?_)
  · rw [if_pos c_1] at hf
    refine lv_iconst (v := 0) hx hb dX7_sum_8 (by decide) ?_
    exact J_c9 σ false H locs ls hf hP hD hS (lv_sub hl [0, 1] rfl)
  · rw [if_neg c_1] at hf
    refine lv_iconst (v := 1) hx hb dX7_sum_4 (by decide) ?_
    refine lv_goto (tgt := 9) hx hb dX7_sum_5 (by decide) ?_
    exact J_c9 σ true H locs ls hf hP hD hS (lv_sub hl [0, 1] rfl)
theorem k_X7_sum {p : Program} {l : Launch} {e : Env} {R : Room} {s : State} {m : MethodId} {args : Array Value} {below : List Frame} {meth : Method} {c : Code} {H : Heap} {locs : List Loc} {Q : State → Prop} {cc : ByteArray} {pc : Nat} {ls : Array Slot} {rest : List Value} {own : String} {index nL : Nat} {A : Nat → Prop} {z : Cx} {r : Nat → Nat} {σ : XS} {a0 : Int32} (S : CallFix p m c cc nL s args tbG own) (hK : va_K z.1 vwCl (cxT z) s) (hA : ∀ q, s.heap.size ≤ q → A q) (hP : va_P z.1 vwCl (xW z r σ) H) (hD : va_D A (xW z r σ)) (hS : va_S A s.heap H locs) (hl : Cond.methodLink own index yX7_sum ∈ tbG) (hR : 3 + 1 ≤ R.frames ∧ 8 + (8 + 11) + 80 ≤ R.locals) (hsz : ls.size = nL) (hcat : (rest.map fun v => v.category).sum ≤ 8) (hdg : decode cc pc = .ok (.invokevirtual index, 3)) (kk : ∀ (H : Heap) (locs : List Loc), va_P z.1 vwCl (xW z r (F_X7_sum σ a0).2) H → va_D A (xW z r (F_X7_sum σ a0).2) → va_S A s.heap H locs → W p l e R s m args below meth c H locs 0 0 Q (F0 m (pc + 3) ls (.int (zB (F_X7_sum σ a0).1) :: rest))) : W p l e R s m args below meth c H locs 0 0 Q (F0 m pc ls (.int a0 :: .ref (r 9) :: rest)) :=
  km (As := [.int a0]) (ov := some (.int (zB (F_X7_sum σ a0).1))) (w' := xW z r (F_X7_sum σ a0).2) (q0 := 9) (ci := 6) S hK hA hP hD hS (c_X7_sum l z r σ a0 H.size _ rfl) ⟨tb_cB 1 S.2.2.2.2 tc_X7_sum ti_X7 hl rfl rfl (by decide +kernel) hR, S.2.2.2.2 _ tm_X7_sum, S.2.2.2.2 _ te_X7_sum⟩ rfl rfl rfl rfl hsz rfl hcat hdg kk

theorem dX6_performsControl_0 : decode cX6_performsControl 0 = .ok (.aload_n 0, 1) := by decide +kernel
theorem dX6_performsControl_1 : decode cX6_performsControl 1 = .ok (.getfield 100, 3) := by decide +kernel
theorem dX6_performsControl_4 : decode cX6_performsControl 4 = .ok (.bipush 24, 2) := by decide +kernel
theorem dX6_performsControl_6 : decode cX6_performsControl 6 = .ok (.iushr, 1) := by decide +kernel
theorem dX6_performsControl_7 : decode cX6_performsControl 7 = .ok (.lookupswitch 147 #[(84, 41), (212, 53), (213, 65), (214, 113)], 41) := by decide +kernel
theorem dX6_performsControl_48 : decode cX6_performsControl 48 = .ok (.aload_n 0, 1) := by decide +kernel
theorem dX6_performsControl_49 : decode cX6_performsControl 49 = .ok (.getfield 54, 3) := by decide +kernel
theorem dX6_performsControl_52 : decode cX6_performsControl 52 = .ok (.aload_n 0, 1) := by decide +kernel
theorem dX6_performsControl_53 : decode cX6_performsControl 53 = .ok (.getfield 100, 3) := by decide +kernel
theorem dX6_performsControl_56 : decode cX6_performsControl 56 = .ok (.invokevirtual 168, 3) := by decide +kernel
theorem dX6_performsControl_59 : decode cX6_performsControl 59 = .ok (.ireturn, 1) := by decide +kernel
theorem dX6_performsControl_60 : decode cX6_performsControl 60 = .ok (.aload_n 0, 1) := by decide +kernel
theorem dX6_performsControl_61 : decode cX6_performsControl 61 = .ok (.getfield 61, 3) := by decide +kernel
theorem dX6_performsControl_64 : decode cX6_performsControl 64 = .ok (.aload_n 0, 1) := by decide +kernel
theorem dX6_performsControl_65 : decode cX6_performsControl 65 = .ok (.getfield 100, 3) := by decide +kernel
theorem dX6_performsControl_68 : decode cX6_performsControl 68 = .ok (.invokevirtual 171, 3) := by decide +kernel
theorem dX6_performsControl_71 : decode cX6_performsControl 71 = .ok (.ireturn, 1) := by decide +kernel
theorem dX6_performsControl_72 : decode cX6_performsControl 72 = .ok (.aload_n 0, 1) := by decide +kernel
theorem dX6_performsControl_73 : decode cX6_performsControl 73 = .ok (.getfield 61, 3) := by decide +kernel
theorem dX6_performsControl_76 : decode cX6_performsControl 76 = .ok (.aload_n 0, 1) := by decide +kernel
theorem dX6_performsControl_77 : decode cX6_performsControl 77 = .ok (.getfield 100, 3) := by decide +kernel
theorem dX6_performsControl_80 : decode cX6_performsControl 80 = .ok (.invokevirtual 174, 3) := by decide +kernel
theorem dX6_performsControl_83 : decode cX6_performsControl 83 = .ok (.ifCond .ne 31, 3) := by decide +kernel
theorem dX6_performsControl_86 : decode cX6_performsControl 86 = .ok (.aload_n 0, 1) := by decide +kernel
theorem dX6_performsControl_87 : decode cX6_performsControl 87 = .ok (.getfield 61, 3) := by decide +kernel
theorem dX6_performsControl_90 : decode cX6_performsControl 90 = .ok (.aload_n 0, 1) := by decide +kernel
theorem dX6_performsControl_91 : decode cX6_performsControl 91 = .ok (.getfield 100, 3) := by decide +kernel
theorem dX6_performsControl_94 : decode cX6_performsControl 94 = .ok (.invokevirtual 177, 3) := by decide +kernel
theorem dX6_performsControl_97 : decode cX6_performsControl 97 = .ok (.ifCond .ne 17, 3) := by decide +kernel
theorem dX6_performsControl_100 : decode cX6_performsControl 100 = .ok (.aload_n 0, 1) := by decide +kernel
theorem dX6_performsControl_101 : decode cX6_performsControl 101 = .ok (.getfield 61, 3) := by decide +kernel
theorem dX6_performsControl_104 : decode cX6_performsControl 104 = .ok (.aload_n 0, 1) := by decide +kernel
theorem dX6_performsControl_105 : decode cX6_performsControl 105 = .ok (.getfield 100, 3) := by decide +kernel
theorem dX6_performsControl_108 : decode cX6_performsControl 108 = .ok (.invokevirtual 180, 3) := by decide +kernel
theorem dX6_performsControl_111 : decode cX6_performsControl 111 = .ok (.ifCond .eq 7, 3) := by decide +kernel
theorem dX6_performsControl_114 : decode cX6_performsControl 114 = .ok (.iconst 1, 1) := by decide +kernel
theorem dX6_performsControl_115 : decode cX6_performsControl 115 = .ok (.goto 4, 3) := by decide +kernel
theorem dX6_performsControl_118 : decode cX6_performsControl 118 = .ok (.iconst 0, 1) := by decide +kernel
theorem dX6_performsControl_119 : decode cX6_performsControl 119 = .ok (.ireturn, 1) := by decide +kernel
theorem dX6_performsControl_120 : decode cX6_performsControl 120 = .ok (.aload_n 0, 1) := by decide +kernel
theorem dX6_performsControl_121 : decode cX6_performsControl 121 = .ok (.getfield 54, 3) := by decide +kernel
theorem dX6_performsControl_124 : decode cX6_performsControl 124 = .ok (.aload_n 0, 1) := by decide +kernel
theorem dX6_performsControl_125 : decode cX6_performsControl 125 = .ok (.getfield 100, 3) := by decide +kernel
theorem dX6_performsControl_128 : decode cX6_performsControl 128 = .ok (.invokevirtual 183, 3) := by decide +kernel
theorem dX6_performsControl_131 : decode cX6_performsControl 131 = .ok (.ifCond .ne 17, 3) := by decide +kernel
theorem dX6_performsControl_134 : decode cX6_performsControl 134 = .ok (.aload_n 0, 1) := by decide +kernel
theorem dX6_performsControl_135 : decode cX6_performsControl 135 = .ok (.getfield 61, 3) := by decide +kernel
theorem dX6_performsControl_138 : decode cX6_performsControl 138 = .ok (.aload_n 0, 1) := by decide +kernel
theorem dX6_performsControl_139 : decode cX6_performsControl 139 = .ok (.getfield 100, 3) := by decide +kernel
theorem dX6_performsControl_142 : decode cX6_performsControl 142 = .ok (.invokevirtual 186, 3) := by decide +kernel
theorem dX6_performsControl_145 : decode cX6_performsControl 145 = .ok (.ifCond .eq 7, 3) := by decide +kernel
theorem dX6_performsControl_148 : decode cX6_performsControl 148 = .ok (.iconst 1, 1) := by decide +kernel
theorem dX6_performsControl_149 : decode cX6_performsControl 149 = .ok (.goto 4, 3) := by decide +kernel
theorem dX6_performsControl_152 : decode cX6_performsControl 152 = .ok (.iconst 0, 1) := by decide +kernel
theorem dX6_performsControl_153 : decode cX6_performsControl 153 = .ok (.ireturn, 1) := by decide +kernel
theorem dX6_performsControl_154 : decode cX6_performsControl 154 = .ok (.iconst 0, 1) := by decide +kernel
theorem dX6_performsControl_155 : decode cX6_performsControl 155 = .ok (.ireturn, 1) := by decide +kernel
def F_X6_performsControl_c111 (τ : XS) (s0 : Bool) : Bool × XS := (if s0 = true then (true, τ) else (false, τ))
def F_X6_performsControl_c145 (τ : XS) (s0 : Bool) : Bool × XS := (if s0 = true then (true, τ) else (false, τ))
def F_X6_performsControl (σ : XS)  : Bool × XS := (if (j_iushr (xO σ) (24 : Int32)) = 84 then ((F_X2_when σ (xO σ)).1, (F_X2_when σ (xO σ)).2) else (if (j_iushr (xO σ) (24 : Int32)) = 212 then ((F_X3_call σ (xO σ)).1, (F_X3_call σ (xO σ)).2) else (if (j_iushr (xO σ) (24 : Int32)) = 213 then (if (F_X3_nothing σ (xO σ)) = true then (true, σ) else (if (F_X3_system σ (xO σ)).1 = true then (true, (F_X3_system σ (xO σ)).2) else (F_X6_performsControl_c111 (F_X3_setting (F_X3_system σ (xO σ)).2 (xO (F_X3_system σ (xO σ)).2)).2 (F_X3_setting (F_X3_system σ (xO σ)).2 (xO (F_X3_system σ (xO σ)).2)).1))) else (if (j_iushr (xO σ) (24 : Int32)) = 214 then (if (F_X2_toRegister σ (xO σ)).1 = true then (true, (F_X2_toRegister σ (xO σ)).2) else (F_X6_performsControl_c145 (F_X3_back (F_X2_toRegister σ (xO σ)).2 (xO (F_X2_toRegister σ (xO σ)).2)).2 (F_X3_back (F_X2_toRegister σ (xO σ)).2 (xO (F_X2_toRegister σ (xO σ)).2)).1)) else (false, σ)))))
set_option maxHeartbeats 4000000 in
set_option maxRecDepth 100000 in
theorem c_X6_performsControl (l : Launch) (z : Cx) (r : Nat → Nat) (σ : XS) (sz : Nat) (res : Bool × XS) (hf : F_X6_performsControl σ = res) : Met l yX6_performsControl (wsC yX6_performsControl cX6_performsControl 1 (some .boolean)) { frames := 3, cells := 0, slots := 0, locals := 74 } (mPc z (xW z r σ) sz [.ref (r 6)]) (gM z (va_A (xW z r σ) sz) (some (.int (zB res.1))) (xW z r res.2)) 0 0 (va_A (xW z r σ) sz) := by
  refine mk_m_z (own := RX6) (wf := xW z r) (by decide) rfl sz _ (Nat.le_of_ble_eq_true rfl) (fun p e s m below meth c A H locs Q ls S hK hA hP hD hS hl hend => ?_)
  have hx := S.1
  have hb := S.2.1
  have hown := S.2.2.2.1
  have hts := S.2.2.2.2
  have hl : lv_has ls 1 [(0, .ref (r 6))] := hl
  have J_c111 : ∀ (τ : XS) (s0 : Bool) (H : Heap) (locs : List Loc) (ls : Array Slot), F_X6_performsControl_c111 τ s0 = res → va_P z.1 vwCl (xW z r τ) H → va_D A (xW z r τ) → va_S A s.heap H locs → lv_has ls 1 [] → W p l e { frames := 3, cells := 0, slots := 0, locals := 74 } s m ([.ref (r 6)] : List Value).toArray below meth c H locs 0 0 Q (F0 m 111 ls [.int (zB s0)]) := by
    intro τ s0 H locs ls hf hP hD hS hl
    unfold F_X6_performsControl_c111 at hf
    refine gz_eq (tgt := 118) hx hb dX6_performsControl_111 (by decide) (fun c_111 => ?_) (fun c_111 => ?_)
    · rw [if_neg c_111] at hf
      refine lv_iconst (v := 0) hx hb dX6_performsControl_118 (by decide) ?_
      exact hend false τ H locs 119 ls hf hP hD hS dX6_performsControl_119
    · rw [if_pos c_111] at hf
      refine lv_iconst (v := 1) hx hb dX6_performsControl_114 (by decide) ?_
      refine lv_goto (tgt := 119) hx hb dX6_performsControl_115 (by decide) ?_
      exact hend true τ H locs 119 ls hf hP hD hS dX6_performsControl_119
  have J_c145 : ∀ (τ : XS) (s0 : Bool) (H : Heap) (locs : List Loc) (ls : Array Slot), F_X6_performsControl_c145 τ s0 = res → va_P z.1 vwCl (xW z r τ) H → va_D A (xW z r τ) → va_S A s.heap H locs → lv_has ls 1 [] → W p l e { frames := 3, cells := 0, slots := 0, locals := 74 } s m ([.ref (r 6)] : List Value).toArray below meth c H locs 0 0 Q (F0 m 145 ls [.int (zB s0)]) := by
    intro τ s0 H locs ls hf hP hD hS hl
    unfold F_X6_performsControl_c145 at hf
    refine gz_eq (tgt := 152) hx hb dX6_performsControl_145 (by decide) (fun c_145 => ?_) (fun c_145 => ?_)
    · rw [if_neg c_145] at hf
      refine lv_iconst (v := 0) hx hb dX6_performsControl_152 (by decide) ?_
      exact hend false τ H locs 153 ls hf hP hD hS dX6_performsControl_153
    · rw [if_pos c_145] at hf
      refine lv_iconst (v := 1) hx hb dX6_performsControl_148 (by decide) ?_
      refine lv_goto (tgt := 153) hx hb dX6_performsControl_149 (by decide) ?_
      exact hend true τ H locs 153 ls hf hP hD hS dX6_performsControl_153
  unfold F_X6_performsControl at hf
  refine lv_aload_n hx hb dX6_performsControl_0 rfl (lv_at hl 0 rfl) ?_
  refine fg_X6_word S hK hP tf_X6_100 dX6_performsControl_1 ?_
  refine lv_bipush (v := 24) hx hb dX6_performsControl_4 (by decide) ?_
  refine lv_iushr (v := (j_iushr (xO σ) (24 : Int32))) hx hb dX6_performsControl_6 rfl ?_
  by_cases c_7_84 : (j_iushr (xO σ) (24 : Int32)) = 84
  · rw [if_pos c_7_84] at hf
    refine gk_in (k := 84) (tgt := 48) hx hb dX6_performsControl_7 c_7_84 (by decide) rfl (by decide) ?_
    refine lv_aload_n hx hb dX6_performsControl_48 rfl (lv_at hl 0 rfl) ?_
    refine fg_X6_branches S hK hP tf_X6_54 dX6_performsControl_49 ?_
    refine lv_aload_n hx hb dX6_performsControl_52 rfl (lv_at hl 0 rfl) ?_
    refine fg_X6_word S hK hP tf_X6_100 dX6_performsControl_53 ?_
    refine k_X2_when (a0 := (xO σ)) S hK hA hP hD hS tl_X6_168 ⟨Nat.le_of_ble_eq_true rfl, Nat.le_of_ble_eq_true rfl⟩ hl.1 (Nat.le_of_ble_eq_true rfl) dX6_performsControl_56 (fun H locs hP hD hS => ?_)
    exact hend (F_X2_when σ (xO σ)).1 (F_X2_when σ (xO σ)).2 H locs 59 ls hf hP hD hS dX6_performsControl_59
  rw [if_neg c_7_84] at hf
  by_cases c_7_212 : (j_iushr (xO σ) (24 : Int32)) = 212
  · rw [if_pos c_7_212] at hf
    refine gk_in (k := 212) (tgt := 60) hx hb dX6_performsControl_7 c_7_212 (by decide) rfl (by decide) ?_
    refine lv_aload_n hx hb dX6_performsControl_60 rfl (lv_at hl 0 rfl) ?_
    refine fg_X6_control S hK hP tf_X6_61 dX6_performsControl_61 ?_
    refine lv_aload_n hx hb dX6_performsControl_64 rfl (lv_at hl 0 rfl) ?_
    refine fg_X6_word S hK hP tf_X6_100 dX6_performsControl_65 ?_
    refine k_X3_call (a0 := (xO σ)) S hK hA hP hD hS tl_X6_171 ⟨Nat.le_of_ble_eq_true rfl, Nat.le_of_ble_eq_true rfl⟩ hl.1 (Nat.le_of_ble_eq_true rfl) dX6_performsControl_68 (fun H locs hP hD hS => ?_)
    exact hend (F_X3_call σ (xO σ)).1 (F_X3_call σ (xO σ)).2 H locs 71 ls hf hP hD hS dX6_performsControl_71
  rw [if_neg c_7_212] at hf
  by_cases c_7_213 : (j_iushr (xO σ) (24 : Int32)) = 213
  · rw [if_pos c_7_213] at hf
    refine gk_in (k := 213) (tgt := 72) hx hb dX6_performsControl_7 c_7_213 (by decide) rfl (by decide) ?_
    refine lv_aload_n hx hb dX6_performsControl_72 rfl (lv_at hl 0 rfl) ?_
    refine fg_X6_control S hK hP tf_X6_61 dX6_performsControl_73 ?_
    refine lv_aload_n hx hb dX6_performsControl_76 rfl (lv_at hl 0 rfl) ?_
    refine fg_X6_word S hK hP tf_X6_100 dX6_performsControl_77 ?_
    refine k_X3_nothing (a0 := (xO σ)) S hK hP tl_X6_174 ⟨Nat.le_of_ble_eq_true rfl, Nat.le_of_ble_eq_true rfl⟩ hl.1 (Nat.le_of_ble_eq_true rfl) dX6_performsControl_80 ?_
    refine gz_ne (tgt := 114) hx hb dX6_performsControl_83 (by decide) (fun c_83 => ?_) (fun c_83 => ?_)
    · rw [if_pos c_83] at hf
      refine lv_iconst (v := 1) hx hb dX6_performsControl_114 (by decide) ?_
      refine lv_goto (tgt := 119) hx hb dX6_performsControl_115 (by decide) ?_
      exact hend true σ H locs 119 ls hf hP hD hS dX6_performsControl_119
    · rw [if_neg c_83] at hf
      refine lv_aload_n hx hb dX6_performsControl_86 rfl (lv_at hl 0 rfl) ?_
      refine fg_X6_control S hK hP tf_X6_61 dX6_performsControl_87 ?_
      refine lv_aload_n hx hb dX6_performsControl_90 rfl (lv_at hl 0 rfl) ?_
      refine fg_X6_word S hK hP tf_X6_100 dX6_performsControl_91 ?_
      refine k_X3_system (a0 := (xO σ)) S hK hA hP hD hS tl_X6_177 ⟨Nat.le_of_ble_eq_true rfl, Nat.le_of_ble_eq_true rfl⟩ hl.1 (Nat.le_of_ble_eq_true rfl) dX6_performsControl_94 (fun H locs hP hD hS => ?_)
      refine gz_ne (tgt := 114) hx hb dX6_performsControl_97 (by decide) (fun c_97 => ?_) (fun c_97 => ?_)
      · rw [if_pos c_97] at hf
        refine lv_iconst (v := 1) hx hb dX6_performsControl_114 (by decide) ?_
        refine lv_goto (tgt := 119) hx hb dX6_performsControl_115 (by decide) ?_
        exact hend true (F_X3_system σ (xO σ)).2 H locs 119 ls hf hP hD hS dX6_performsControl_119
      · rw [if_neg c_97] at hf
        refine lv_aload_n hx hb dX6_performsControl_100 rfl (lv_at hl 0 rfl) ?_
        refine fg_X6_control S hK hP tf_X6_61 dX6_performsControl_101 ?_
        refine lv_aload_n hx hb dX6_performsControl_104 rfl (lv_at hl 0 rfl) ?_
        refine fg_X6_word S hK hP tf_X6_100 dX6_performsControl_105 ?_
        refine k_X3_setting (a0 := (xO (F_X3_system σ (xO σ)).2)) S hK hA hP hD hS tl_X6_180 ⟨Nat.le_of_ble_eq_true rfl, Nat.le_of_ble_eq_true rfl⟩ hl.1 (Nat.le_of_ble_eq_true rfl) dX6_performsControl_108 (fun H locs hP hD hS => ?_)
        exact J_c111 (F_X3_setting (F_X3_system σ (xO σ)).2 (xO (F_X3_system σ (xO σ)).2)).2 (F_X3_setting (F_X3_system σ (xO σ)).2 (xO (F_X3_system σ (xO σ)).2)).1 H locs ls hf hP hD hS (lv_sub hl [] rfl)
  rw [if_neg c_7_213] at hf
  by_cases c_7_214 : (j_iushr (xO σ) (24 : Int32)) = 214
  · rw [if_pos c_7_214] at hf
    refine gk_in (k := 214) (tgt := 120) hx hb dX6_performsControl_7 c_7_214 (by decide) rfl (by decide) ?_
    refine lv_aload_n hx hb dX6_performsControl_120 rfl (lv_at hl 0 rfl) ?_
    refine fg_X6_branches S hK hP tf_X6_54 dX6_performsControl_121 ?_
    refine lv_aload_n hx hb dX6_performsControl_124 rfl (lv_at hl 0 rfl) ?_
    refine fg_X6_word S hK hP tf_X6_100 dX6_performsControl_125 ?_
    refine k_X2_toRegister (a0 := (xO σ)) S hK hA hP hD hS tl_X6_183 ⟨Nat.le_of_ble_eq_true rfl, Nat.le_of_ble_eq_true rfl⟩ hl.1 (Nat.le_of_ble_eq_true rfl) dX6_performsControl_128 (fun H locs hP hD hS => ?_)
    refine gz_ne (tgt := 148) hx hb dX6_performsControl_131 (by decide) (fun c_131 => ?_) (fun c_131 => ?_)
    · rw [if_pos c_131] at hf
      refine lv_iconst (v := 1) hx hb dX6_performsControl_148 (by decide) ?_
      refine lv_goto (tgt := 153) hx hb dX6_performsControl_149 (by decide) ?_
      exact hend true (F_X2_toRegister σ (xO σ)).2 H locs 153 ls hf hP hD hS dX6_performsControl_153
    · rw [if_neg c_131] at hf
      refine lv_aload_n hx hb dX6_performsControl_134 rfl (lv_at hl 0 rfl) ?_
      refine fg_X6_control S hK hP tf_X6_61 dX6_performsControl_135 ?_
      refine lv_aload_n hx hb dX6_performsControl_138 rfl (lv_at hl 0 rfl) ?_
      refine fg_X6_word S hK hP tf_X6_100 dX6_performsControl_139 ?_
      refine k_X3_back (a0 := (xO (F_X2_toRegister σ (xO σ)).2)) S hK hA hP hD hS tl_X6_186 ⟨Nat.le_of_ble_eq_true rfl, Nat.le_of_ble_eq_true rfl⟩ hl.1 (Nat.le_of_ble_eq_true rfl) dX6_performsControl_142 (fun H locs hP hD hS => ?_)
      exact J_c145 (F_X3_back (F_X2_toRegister σ (xO σ)).2 (xO (F_X2_toRegister σ (xO σ)).2)).2 (F_X3_back (F_X2_toRegister σ (xO σ)).2 (xO (F_X2_toRegister σ (xO σ)).2)).1 H locs ls hf hP hD hS (lv_sub hl [] rfl)
  rw [if_neg c_7_214] at hf
  refine lv_lookup (tgt := 154) (off := 147) hx hb dX6_performsControl_7 (by decide) ((lv_osw (a := 84) c_7_84 rfl).trans ((lv_osw (a := 212) c_7_212 rfl).trans ((lv_osw (a := 213) c_7_213 rfl).trans ((lv_osw (a := 214) c_7_214 rfl).trans (rfl))))) (by decide) ?_
  refine lv_iconst (v := 0) hx hb dX6_performsControl_154 (by decide) ?_
  exact hend false σ H locs 155 ls hf hP hD hS dX6_performsControl_155
theorem k_X6_performsControl {p : Program} {l : Launch} {e : Env} {R : Room} {s : State} {m : MethodId} {args : Array Value} {below : List Frame} {meth : Method} {c : Code} {H : Heap} {locs : List Loc} {Q : State → Prop} {cc : ByteArray} {pc : Nat} {ls : Array Slot} {rest : List Value} {own : String} {index nL : Nat} {A : Nat → Prop} {z : Cx} {r : Nat → Nat} {σ : XS} (S : CallFix p m c cc nL s args tbG own) (hK : va_K z.1 vwCl (cxT z) s) (hA : ∀ q, s.heap.size ≤ q → A q) (hP : va_P z.1 vwCl (xW z r σ) H) (hD : va_D A (xW z r σ)) (hS : va_S A s.heap H locs) (hl : Cond.methodLink own index yX6_performsControl ∈ tbG) (hR : 3 + 1 ≤ R.frames ∧ 8 + (1 + 11) + 74 ≤ R.locals) (hsz : ls.size = nL) (hcat : (rest.map fun v => v.category).sum ≤ 8) (hdg : decode cc pc = .ok (.invokevirtual index, 3)) (kk : ∀ (H : Heap) (locs : List Loc), va_P z.1 vwCl (xW z r (F_X6_performsControl σ).2) H → va_D A (xW z r (F_X6_performsControl σ).2) → va_S A s.heap H locs → W p l e R s m args below meth c H locs 0 0 Q (F0 m (pc + 3) ls (.int (zB (F_X6_performsControl σ).1) :: rest))) : W p l e R s m args below meth c H locs 0 0 Q (F0 m pc ls (.ref (r 6) :: rest)) :=
  km (As := []) (ov := some (.int (zB (F_X6_performsControl σ).1))) (w' := xW z r (F_X6_performsControl σ).2) (q0 := 6) (ci := 5) S hK hA hP hD hS (c_X6_performsControl l z r σ H.size _ rfl) ⟨tb_cB 0 S.2.2.2.2 tc_X6_performsControl ti_X6 hl rfl rfl (by decide +kernel) hR, S.2.2.2.2 _ tm_X6_performsControl, S.2.2.2.2 _ te_X6_performsControl⟩ rfl rfl rfl rfl hsz rfl hcat hdg kk

theorem dX6_performsBranch_0 : decode cX6_performsBranch 0 = .ok (.aload_n 0, 1) := by decide +kernel
theorem dX6_performsBranch_1 : decode cX6_performsBranch 1 = .ok (.getfield 100, 3) := by decide +kernel
theorem dX6_performsBranch_4 : decode cX6_performsBranch 4 = .ok (.bipush 29, 2) := by decide +kernel
theorem dX6_performsBranch_6 : decode cX6_performsBranch 6 = .ok (.iushr, 1) := by decide +kernel
theorem dX6_performsBranch_7 : decode cX6_performsBranch 7 = .ok (.iconst 3, 1) := by decide +kernel
theorem dX6_performsBranch_8 : decode cX6_performsBranch 8 = .ok (.iand, 1) := by decide +kernel
theorem dX6_performsBranch_9 : decode cX6_performsBranch 9 = .ok (.tableswitch 82 0 2 #[27, 39, 77], 27) := by decide +kernel
theorem dX6_performsBranch_36 : decode cX6_performsBranch 36 = .ok (.aload_n 0, 1) := by decide +kernel
theorem dX6_performsBranch_37 : decode cX6_performsBranch 37 = .ok (.getfield 54, 3) := by decide +kernel
theorem dX6_performsBranch_40 : decode cX6_performsBranch 40 = .ok (.aload_n 0, 1) := by decide +kernel
theorem dX6_performsBranch_41 : decode cX6_performsBranch 41 = .ok (.getfield 100, 3) := by decide +kernel
theorem dX6_performsBranch_44 : decode cX6_performsBranch 44 = .ok (.invokevirtual 156, 3) := by decide +kernel
theorem dX6_performsBranch_47 : decode cX6_performsBranch 47 = .ok (.ireturn, 1) := by decide +kernel
theorem dX6_performsBranch_48 : decode cX6_performsBranch 48 = .ok (.aload_n 0, 1) := by decide +kernel
theorem dX6_performsBranch_49 : decode cX6_performsBranch 49 = .ok (.getfield 100, 3) := by decide +kernel
theorem dX6_performsBranch_52 : decode cX6_performsBranch 52 = .ok (.bipush 25, 2) := by decide +kernel
theorem dX6_performsBranch_54 : decode cX6_performsBranch 54 = .ok (.invokestatic 120, 3) := by decide +kernel
theorem dX6_performsBranch_57 : decode cX6_performsBranch 57 = .ok (.ifCond .eq 17, 3) := by decide +kernel
theorem dX6_performsBranch_60 : decode cX6_performsBranch 60 = .ok (.aload_n 0, 1) := by decide +kernel
theorem dX6_performsBranch_61 : decode cX6_performsBranch 61 = .ok (.getfield 54, 3) := by decide +kernel
theorem dX6_performsBranch_64 : decode cX6_performsBranch 64 = .ok (.aload_n 0, 1) := by decide +kernel
theorem dX6_performsBranch_65 : decode cX6_performsBranch 65 = .ok (.getfield 100, 3) := by decide +kernel
theorem dX6_performsBranch_68 : decode cX6_performsBranch 68 = .ok (.invokevirtual 159, 3) := by decide +kernel
theorem dX6_performsBranch_71 : decode cX6_performsBranch 71 = .ok (.goto 14, 3) := by decide +kernel
theorem dX6_performsBranch_74 : decode cX6_performsBranch 74 = .ok (.aload_n 0, 1) := by decide +kernel
theorem dX6_performsBranch_75 : decode cX6_performsBranch 75 = .ok (.getfield 54, 3) := by decide +kernel
theorem dX6_performsBranch_78 : decode cX6_performsBranch 78 = .ok (.aload_n 0, 1) := by decide +kernel
theorem dX6_performsBranch_79 : decode cX6_performsBranch 79 = .ok (.getfield 100, 3) := by decide +kernel
theorem dX6_performsBranch_82 : decode cX6_performsBranch 82 = .ok (.invokevirtual 162, 3) := by decide +kernel
theorem dX6_performsBranch_85 : decode cX6_performsBranch 85 = .ok (.ireturn, 1) := by decide +kernel
theorem dX6_performsBranch_86 : decode cX6_performsBranch 86 = .ok (.aload_n 0, 1) := by decide +kernel
theorem dX6_performsBranch_87 : decode cX6_performsBranch 87 = .ok (.invokevirtual 165, 3) := by decide +kernel
theorem dX6_performsBranch_90 : decode cX6_performsBranch 90 = .ok (.ireturn, 1) := by decide +kernel
theorem dX6_performsBranch_91 : decode cX6_performsBranch 91 = .ok (.iconst 0, 1) := by decide +kernel
theorem dX6_performsBranch_92 : decode cX6_performsBranch 92 = .ok (.ireturn, 1) := by decide +kernel
def F_X6_performsBranch (σ : XS)  : Bool × XS := (if ((j_iushr (xO σ) (29 : Int32)) &&& (3 : Int32)) = 0 then ((F_X2_branch σ (xO σ)).1, (F_X2_branch σ (xO σ)).2) else (if ((j_iushr (xO σ) (29 : Int32)) &&& (3 : Int32)) = 1 then (if (F_X1_isOne (xO σ) (25 : Int32)) = true then ((F_X2_bit σ (xO σ)).1, (F_X2_bit σ (xO σ)).2) else ((F_X2_zero σ (xO σ)).1, (F_X2_zero σ (xO σ)).2)) else (if ((j_iushr (xO σ) (29 : Int32)) &&& (3 : Int32)) = 2 then ((F_X6_performsControl σ).1, (F_X6_performsControl σ).2) else (false, σ))))
set_option maxHeartbeats 4000000 in
set_option maxRecDepth 100000 in
theorem c_X6_performsBranch (l : Launch) (z : Cx) (r : Nat → Nat) (σ : XS) (sz : Nat) (res : Bool × XS) (hf : F_X6_performsBranch σ = res) : Met l yX6_performsBranch (wsC yX6_performsBranch cX6_performsBranch 1 (some .boolean)) { frames := 4, cells := 0, slots := 0, locals := 94 } (mPc z (xW z r σ) sz [.ref (r 6)]) (gM z (va_A (xW z r σ) sz) (some (.int (zB res.1))) (xW z r res.2)) 0 0 (va_A (xW z r σ) sz) := by
  refine mk_m_z (own := RX6) (wf := xW z r) (by decide) rfl sz _ (Nat.le_of_ble_eq_true rfl) (fun p e s m below meth c A H locs Q ls S hK hA hP hD hS hl hend => ?_)
  have hx := S.1
  have hb := S.2.1
  have hown := S.2.2.2.1
  have hts := S.2.2.2.2
  have hl : lv_has ls 1 [(0, .ref (r 6))] := hl
  unfold F_X6_performsBranch at hf
  refine lv_aload_n hx hb dX6_performsBranch_0 rfl (lv_at hl 0 rfl) ?_
  refine fg_X6_word S hK hP tf_X6_100 dX6_performsBranch_1 ?_
  refine lv_bipush (v := 29) hx hb dX6_performsBranch_4 (by decide) ?_
  refine lv_iushr (v := (j_iushr (xO σ) (29 : Int32))) hx hb dX6_performsBranch_6 rfl ?_
  refine lv_iconst (v := 3) hx hb dX6_performsBranch_7 (by decide) ?_
  refine lv_iand hx hb dX6_performsBranch_8 ?_
  by_cases c_9_0 : ((j_iushr (xO σ) (29 : Int32)) &&& (3 : Int32)) = 0
  · rw [if_pos c_9_0] at hf
    refine gt_in (k := 0) (tgt := 36) hx hb dX6_performsBranch_9 c_9_0 (by decide) (by decide) rfl (by decide) ?_
    refine lv_aload_n hx hb dX6_performsBranch_36 rfl (lv_at hl 0 rfl) ?_
    refine fg_X6_branches S hK hP tf_X6_54 dX6_performsBranch_37 ?_
    refine lv_aload_n hx hb dX6_performsBranch_40 rfl (lv_at hl 0 rfl) ?_
    refine fg_X6_word S hK hP tf_X6_100 dX6_performsBranch_41 ?_
    refine k_X2_branch (a0 := (xO σ)) S hK hA hP hD hS tl_X6_156 ⟨Nat.le_of_ble_eq_true rfl, Nat.le_of_ble_eq_true rfl⟩ hl.1 (Nat.le_of_ble_eq_true rfl) dX6_performsBranch_44 (fun H locs hP hD hS => ?_)
    exact hend (F_X2_branch σ (xO σ)).1 (F_X2_branch σ (xO σ)).2 H locs 47 ls hf hP hD hS dX6_performsBranch_47
  rw [if_neg c_9_0] at hf
  by_cases c_9_1 : ((j_iushr (xO σ) (29 : Int32)) &&& (3 : Int32)) = 1
  · rw [if_pos c_9_1] at hf
    refine gt_in (k := 1) (tgt := 48) hx hb dX6_performsBranch_9 c_9_1 (by decide) (by decide) rfl (by decide) ?_
    refine lv_aload_n hx hb dX6_performsBranch_48 rfl (lv_at hl 0 rfl) ?_
    refine fg_X6_word S hK hP tf_X6_100 dX6_performsBranch_49 ?_
    refine lv_bipush (v := 25) hx hb dX6_performsBranch_52 (by decide) ?_
    refine k_X1_isOne (a0 := (xO σ)) (a1 := (25 : Int32)) S tl_X6_120 ⟨Nat.le_of_ble_eq_true rfl, Nat.le_of_ble_eq_true rfl⟩ hl.1 (Nat.le_of_ble_eq_true rfl) dX6_performsBranch_54 ?_
    refine gz_eq (tgt := 74) hx hb dX6_performsBranch_57 (by decide) (fun c_57 => ?_) (fun c_57 => ?_)
    · rw [if_neg c_57] at hf
      refine lv_aload_n hx hb dX6_performsBranch_74 rfl (lv_at hl 0 rfl) ?_
      refine fg_X6_branches S hK hP tf_X6_54 dX6_performsBranch_75 ?_
      refine lv_aload_n hx hb dX6_performsBranch_78 rfl (lv_at hl 0 rfl) ?_
      refine fg_X6_word S hK hP tf_X6_100 dX6_performsBranch_79 ?_
      refine k_X2_zero (a0 := (xO σ)) S hK hA hP hD hS tl_X6_162 ⟨Nat.le_of_ble_eq_true rfl, Nat.le_of_ble_eq_true rfl⟩ hl.1 (Nat.le_of_ble_eq_true rfl) dX6_performsBranch_82 (fun H locs hP hD hS => ?_)
      exact hend (F_X2_zero σ (xO σ)).1 (F_X2_zero σ (xO σ)).2 H locs 85 ls hf hP hD hS dX6_performsBranch_85
    · rw [if_pos c_57] at hf
      refine lv_aload_n hx hb dX6_performsBranch_60 rfl (lv_at hl 0 rfl) ?_
      refine fg_X6_branches S hK hP tf_X6_54 dX6_performsBranch_61 ?_
      refine lv_aload_n hx hb dX6_performsBranch_64 rfl (lv_at hl 0 rfl) ?_
      refine fg_X6_word S hK hP tf_X6_100 dX6_performsBranch_65 ?_
      refine k_X2_bit (a0 := (xO σ)) S hK hA hP hD hS tl_X6_159 ⟨Nat.le_of_ble_eq_true rfl, Nat.le_of_ble_eq_true rfl⟩ hl.1 (Nat.le_of_ble_eq_true rfl) dX6_performsBranch_68 (fun H locs hP hD hS => ?_)
      refine lv_goto (tgt := 85) hx hb dX6_performsBranch_71 (by decide) ?_
      exact hend (F_X2_bit σ (xO σ)).1 (F_X2_bit σ (xO σ)).2 H locs 85 ls hf hP hD hS dX6_performsBranch_85
  rw [if_neg c_9_1] at hf
  by_cases c_9_2 : ((j_iushr (xO σ) (29 : Int32)) &&& (3 : Int32)) = 2
  · rw [if_pos c_9_2] at hf
    refine gt_in (k := 2) (tgt := 86) hx hb dX6_performsBranch_9 c_9_2 (by decide) (by decide) rfl (by decide) ?_
    refine lv_aload_n hx hb dX6_performsBranch_86 rfl (lv_at hl 0 rfl) ?_
    refine k_X6_performsControl S hK hA hP hD hS tl_X6_165 ⟨Nat.le_of_ble_eq_true rfl, Nat.le_of_ble_eq_true rfl⟩ hl.1 (Nat.le_of_ble_eq_true rfl) dX6_performsBranch_87 (fun H locs hP hD hS => ?_)
    exact hend (F_X6_performsControl σ).1 (F_X6_performsControl σ).2 H locs 90 ls hf hP hD hS dX6_performsBranch_90
  rw [if_neg c_9_2] at hf
  refine lv_tableOut (tgt := 91) hx hb dX6_performsBranch_9 (by have q0 := lv_neT c_9_0 (show ((0 : Int32)).toInt = 0 from rfl); have q1 := lv_neT c_9_1 (show ((1 : Int32)).toInt = 1 from rfl); have q2 := lv_neT c_9_2 (show ((2 : Int32)).toInt = 2 from rfl); omega) (by decide) ?_
  refine lv_iconst (v := 0) hx hb dX6_performsBranch_91 (by decide) ?_
  exact hend false σ H locs 92 ls hf hP hD hS dX6_performsBranch_92
theorem k_X6_performsBranch {p : Program} {l : Launch} {e : Env} {R : Room} {s : State} {m : MethodId} {args : Array Value} {below : List Frame} {meth : Method} {c : Code} {H : Heap} {locs : List Loc} {Q : State → Prop} {cc : ByteArray} {pc : Nat} {ls : Array Slot} {rest : List Value} {own : String} {index nL : Nat} {A : Nat → Prop} {z : Cx} {r : Nat → Nat} {σ : XS} (S : CallFix p m c cc nL s args tbG own) (hK : va_K z.1 vwCl (cxT z) s) (hA : ∀ q, s.heap.size ≤ q → A q) (hP : va_P z.1 vwCl (xW z r σ) H) (hD : va_D A (xW z r σ)) (hS : va_S A s.heap H locs) (hl : Cond.methodLink own index yX6_performsBranch ∈ tbG) (hR : 4 + 1 ≤ R.frames ∧ 8 + (1 + 11) + 94 ≤ R.locals) (hsz : ls.size = nL) (hcat : (rest.map fun v => v.category).sum ≤ 8) (hdg : decode cc pc = .ok (.invokevirtual index, 3)) (kk : ∀ (H : Heap) (locs : List Loc), va_P z.1 vwCl (xW z r (F_X6_performsBranch σ).2) H → va_D A (xW z r (F_X6_performsBranch σ).2) → va_S A s.heap H locs → W p l e R s m args below meth c H locs 0 0 Q (F0 m (pc + 3) ls (.int (zB (F_X6_performsBranch σ).1) :: rest))) : W p l e R s m args below meth c H locs 0 0 Q (F0 m pc ls (.ref (r 6) :: rest)) :=
  km (As := []) (ov := some (.int (zB (F_X6_performsBranch σ).1))) (w' := xW z r (F_X6_performsBranch σ).2) (q0 := 6) (ci := 5) S hK hA hP hD hS (c_X6_performsBranch l z r σ H.size _ rfl) ⟨tb_cB 0 S.2.2.2.2 tc_X6_performsBranch ti_X6 hl rfl rfl (by decide +kernel) hR, S.2.2.2.2 _ tm_X6_performsBranch, S.2.2.2.2 _ te_X6_performsBranch⟩ rfl rfl rfl rfl hsz rfl hcat hdg kk

