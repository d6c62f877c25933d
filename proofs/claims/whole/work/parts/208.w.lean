theorem dX7_two_0 : decode cX7_two 0 = .ok (.iload_n 1, 1) := by decide +kernel
theorem dX7_two_1 : decode cX7_two 1 = .ok (.ifCond .ge 7, 3) := by decide +kernel
theorem dX7_two_4 : decode cX7_two 4 = .ok (.iconst 1, 1) := by decide +kernel
theorem dX7_two_5 : decode cX7_two 5 = .ok (.goto 4, 3) := by decide +kernel
theorem dX7_two_8 : decode cX7_two 8 = .ok (.iconst 0, 1) := by decide +kernel
theorem dX7_two_9 : decode cX7_two 9 = .ok (.istore_n 2, 1) := by decide +kernel
theorem dX7_two_10 : decode cX7_two 10 = .ok (.iload_n 1, 1) := by decide +kernel
theorem dX7_two_11 : decode cX7_two 11 = .ok (.bipush 10, 2) := by decide +kernel
theorem dX7_two_13 : decode cX7_two 13 = .ok (.bipush 6, 2) := by decide +kernel
theorem dX7_two_15 : decode cX7_two 15 = .ok (.invokestatic 17, 3) := by decide +kernel
theorem dX7_two_18 : decode cX7_two 18 = .ok (.istore_n 3, 1) := by decide +kernel
theorem dX7_two_19 : decode cX7_two 19 = .ok (.iload_n 1, 1) := by decide +kernel
theorem dX7_two_20 : decode cX7_two 20 = .ok (.bipush 29, 2) := by decide +kernel
theorem dX7_two_22 : decode cX7_two 22 = .ok (.invokestatic 37, 3) := by decide +kernel
theorem dX7_two_25 : decode cX7_two 25 = .ok (.ifCond .eq 5, 3) := by decide +kernel
theorem dX7_two_28 : decode cX7_two 28 = .ok (.iconst 0, 1) := by decide +kernel
theorem dX7_two_29 : decode cX7_two 29 = .ok (.ireturn, 1) := by decide +kernel
theorem dX7_two_30 : decode cX7_two 30 = .ok (.iload_n 3, 1) := by decide +kernel
theorem dX7_two_31 : decode cX7_two 31 = .ok (.iconst 2, 1) := by decide +kernel
theorem dX7_two_32 : decode cX7_two 32 = .ok (.if_icmp .ne 22, 3) := by decide +kernel
theorem dX7_two_35 : decode cX7_two 35 = .ok (.aload_n 0, 1) := by decide +kernel
theorem dX7_two_36 : decode cX7_two 36 = .ok (.iload_n 1, 1) := by decide +kernel
theorem dX7_two_37 : decode cX7_two 37 = .ok (.aload_n 0, 1) := by decide +kernel
theorem dX7_two_38 : decode cX7_two 38 = .ok (.iload_n 1, 1) := by decide +kernel
theorem dX7_two_39 : decode cX7_two 39 = .ok (.invokevirtual 52, 3) := by decide +kernel
theorem dX7_two_42 : decode cX7_two 42 = .ok (.aload_n 0, 1) := by decide +kernel
theorem dX7_two_43 : decode cX7_two 43 = .ok (.iload_n 1, 1) := by decide +kernel
theorem dX7_two_44 : decode cX7_two 44 = .ok (.invokevirtual 45, 3) := by decide +kernel
theorem dX7_two_47 : decode cX7_two 47 = .ok (.invokestatic 84, 3) := by decide +kernel
theorem dX7_two_50 : decode cX7_two 50 = .ok (.invokevirtual 61, 3) := by decide +kernel
theorem dX7_two_53 : decode cX7_two 53 = .ok (.ireturn, 1) := by decide +kernel
theorem dX7_two_54 : decode cX7_two 54 = .ok (.iload_n 3, 1) := by decide +kernel
theorem dX7_two_55 : decode cX7_two 55 = .ok (.iconst 3, 1) := by decide +kernel
theorem dX7_two_56 : decode cX7_two 56 = .ok (.if_icmp .ne 23, 3) := by decide +kernel
theorem dX7_two_59 : decode cX7_two 59 = .ok (.aload_n 0, 1) := by decide +kernel
theorem dX7_two_60 : decode cX7_two 60 = .ok (.iload_n 1, 1) := by decide +kernel
theorem dX7_two_61 : decode cX7_two 61 = .ok (.aload_n 0, 1) := by decide +kernel
theorem dX7_two_62 : decode cX7_two 62 = .ok (.iload_n 1, 1) := by decide +kernel
theorem dX7_two_63 : decode cX7_two 63 = .ok (.invokevirtual 52, 3) := by decide +kernel
theorem dX7_two_66 : decode cX7_two 66 = .ok (.aload_n 0, 1) := by decide +kernel
theorem dX7_two_67 : decode cX7_two 67 = .ok (.iload_n 1, 1) := by decide +kernel
theorem dX7_two_68 : decode cX7_two 68 = .ok (.invokevirtual 45, 3) := by decide +kernel
theorem dX7_two_71 : decode cX7_two 71 = .ok (.iload_n 2, 1) := by decide +kernel
theorem dX7_two_72 : decode cX7_two 72 = .ok (.invokestatic 87, 3) := by decide +kernel
theorem dX7_two_75 : decode cX7_two 75 = .ok (.invokevirtual 61, 3) := by decide +kernel
theorem dX7_two_78 : decode cX7_two 78 = .ok (.ireturn, 1) := by decide +kernel
theorem dX7_two_79 : decode cX7_two 79 = .ok (.iload_n 3, 1) := by decide +kernel
theorem dX7_two_80 : decode cX7_two 80 = .ok (.bipush 8, 2) := by decide +kernel
theorem dX7_two_82 : decode cX7_two 82 = .ok (.if_icmp .lt 9, 3) := by decide +kernel
theorem dX7_two_85 : decode cX7_two 85 = .ok (.iload_n 3, 1) := by decide +kernel
theorem dX7_two_86 : decode cX7_two 86 = .ok (.bipush 11, 2) := by decide +kernel
theorem dX7_two_88 : decode cX7_two 88 = .ok (.if_icmp .le 5, 3) := by decide +kernel
theorem dX7_two_91 : decode cX7_two 91 = .ok (.iconst 0, 1) := by decide +kernel
theorem dX7_two_92 : decode cX7_two 92 = .ok (.ireturn, 1) := by decide +kernel
theorem dX7_two_93 : decode cX7_two 93 = .ok (.aload_n 0, 1) := by decide +kernel
theorem dX7_two_94 : decode cX7_two 94 = .ok (.iload_n 1, 1) := by decide +kernel
theorem dX7_two_95 : decode cX7_two 95 = .ok (.invokevirtual 45, 3) := by decide +kernel
theorem dX7_two_98 : decode cX7_two 98 = .ok (.l2i, 1) := by decide +kernel
theorem dX7_two_99 : decode cX7_two 99 = .ok (.iload_n 2, 1) := by decide +kernel
theorem dX7_two_100 : decode cX7_two 100 = .ok (.invokestatic 41, 3) := by decide +kernel
theorem dX7_two_103 : decode cX7_two 103 = .ok (.iconst 1, 1) := by decide +kernel
theorem dX7_two_104 : decode cX7_two 104 = .ok (.isub, 1) := by decide +kernel
theorem dX7_two_105 : decode cX7_two 105 = .ok (.iand, 1) := by decide +kernel
theorem dX7_two_106 : decode cX7_two 106 = .ok (.istore 4, 2) := by decide +kernel
theorem dX7_two_108 : decode cX7_two 108 = .ok (.aload_n 0, 1) := by decide +kernel
theorem dX7_two_109 : decode cX7_two 109 = .ok (.iload_n 1, 1) := by decide +kernel
theorem dX7_two_110 : decode cX7_two 110 = .ok (.aload_n 0, 1) := by decide +kernel
theorem dX7_two_111 : decode cX7_two 111 = .ok (.iload_n 1, 1) := by decide +kernel
theorem dX7_two_112 : decode cX7_two 112 = .ok (.invokevirtual 52, 3) := by decide +kernel
theorem dX7_two_115 : decode cX7_two 115 = .ok (.iload_n 3, 1) := by decide +kernel
theorem dX7_two_116 : decode cX7_two 116 = .ok (.bipush 8, 2) := by decide +kernel
theorem dX7_two_118 : decode cX7_two 118 = .ok (.isub, 1) := by decide +kernel
theorem dX7_two_119 : decode cX7_two 119 = .ok (.iload 4, 2) := by decide +kernel
theorem dX7_two_121 : decode cX7_two 121 = .ok (.iload_n 2, 1) := by decide +kernel
theorem dX7_two_122 : decode cX7_two 122 = .ok (.invokestatic 48, 3) := by decide +kernel
theorem dX7_two_125 : decode cX7_two 125 = .ok (.invokevirtual 61, 3) := by decide +kernel
theorem dX7_two_128 : decode cX7_two 128 = .ok (.ireturn, 1) := by decide +kernel
def F_X7_two_c128 (τ : XS) (a0 : Int32) (s0 : Bool) : Bool × XS := (s0, τ)
def F_X7_two_c78 (τ : XS) (a0 : Int32) (s0 : Bool) : Bool × XS := (s0, τ)
def F_X7_two_c53 (τ : XS) (a0 : Int32) (s0 : Bool) : Bool × XS := (s0, τ)
def F_X7_two_c19 (τ : XS) (a0 : Int32) (w2 : Bool) (w3 : Int32) : Bool × XS := (if (F_X1_isOne a0 (29 : Int32)) = true then (false, τ) else (if w3 = (2 : Int32) then (F_X7_two_c53 (F_X7_put τ a0 (F_X7_quotient (F_X7_left τ a0) (F_X7_right τ a0))).2 a0 (F_X7_put τ a0 (F_X7_quotient (F_X7_left τ a0) (F_X7_right τ a0))).1) else (if w3 = (3 : Int32) then (F_X7_two_c78 (F_X7_put τ a0 (F_X7_signedQuotient (F_X7_left τ a0) (F_X7_right τ a0) w2)).2 a0 (F_X7_put τ a0 (F_X7_signedQuotient (F_X7_left τ a0) (F_X7_right τ a0) w2)).1) else (if w3 < (8 : Int32) then (false, τ) else (if w3 ≤ (11 : Int32) then (F_X7_two_c128 (F_X7_put τ a0 (F_X1_moved (F_X7_left τ a0) (w3 - (8 : Int32)) ((F_X7_right τ a0).toInt32 &&& ((F_X1_width w2) - (1 : Int32))) w2)).2 a0 (F_X7_put τ a0 (F_X1_moved (F_X7_left τ a0) (w3 - (8 : Int32)) ((F_X7_right τ a0).toInt32 &&& ((F_X1_width w2) - (1 : Int32))) w2)).1) else (false, τ))))))
def F_X7_two_c9 (τ : XS) (a0 : Int32) (s0 : Bool) : Bool × XS := (F_X7_two_c19 τ a0 s0 (F_X1_field a0 (10 : Int32) (6 : Int32)))
def F_X7_two (σ : XS) (a0 : Int32) : Bool × XS := (if 0 ≤ a0 then (F_X7_two_c9 σ a0 false) else (F_X7_two_c9 σ a0 true))
set_option maxHeartbeats 4000000 in
set_option maxRecDepth 100000 in
theorem c_X7_two (l : Launch) (z : Cx) (r : Nat → Nat) (σ : XS) (a0 : Int32) (sz : Nat) (res : Bool × XS) (hf : F_X7_two σ a0 = res) : Met l yX7_two (wsC yX7_two cX7_two 5 (some .boolean)) { frames := 3, cells := 0, slots := 0, locals := 73 } (mPc z (xW z r σ) sz [.ref (r 9), .int a0]) (gM z (va_A (xW z r σ) sz) (some (.int (zB res.1))) (xW z r res.2)) 0 0 (va_A (xW z r σ) sz) := by
  refine mk_m_z (own := RX7) (wf := xW z r) (by decide) rfl sz _ (Nat.le_of_ble_eq_true rfl) (fun p e s m below meth c A H locs Q ls S hK hA hP hD hS hl hend => ?_)
  have hx := S.1
  have hb := S.2.1
  have hown := S.2.2.2.1
  have hts := S.2.2.2.2
  have hl : lv_has ls 5 [(0, .ref (r 9)), (1, .int a0)] := hl
  have J_c128 : ∀ (τ : XS) (s0 : Bool) (H : Heap) (locs : List Loc) (ls : Array Slot), F_X7_two_c128 τ a0 s0 = res → va_P z.1 vwCl (xW z r τ) H → va_D A (xW z r τ) → va_S A s.heap H locs → lv_has ls 5 [] → W p l e { frames := 3, cells := 0, slots := 0, locals := 73 } s m ([.ref (r 9), .int a0] : List Value).toArray below meth c H locs 0 0 Q (F0 m 128 ls [.int (zB s0)]) := by
    intro τ s0 H locs ls hf hP hD hS hl
    unfold F_X7_two_c128 at hf
    exact hend s0 τ H locs 128 ls hf hP hD hS dX7_two_128
  have J_c78 : ∀ (τ : XS) (s0 : Bool) (H : Heap) (locs : List Loc) (ls : Array Slot), F_X7_two_c78 τ a0 s0 = res → va_P z.1 vwCl (xW z r τ) H → va_D A (xW z r τ) → va_S A s.heap H locs → lv_has ls 5 [] → W p l e { frames := 3, cells := 0, slots := 0, locals := 73 } s m ([.ref (r 9), .int a0] : List Value).toArray below meth c H locs 0 0 Q (F0 m 78 ls [.int (zB s0)]) := by
    intro τ s0 H locs ls hf hP hD hS hl
    unfold F_X7_two_c78 at hf
    exact hend s0 τ H locs 78 ls hf hP hD hS dX7_two_78
  have J_c53 : ∀ (τ : XS) (s0 : Bool) (H : Heap) (locs : List Loc) (ls : Array Slot), F_X7_two_c53 τ a0 s0 = res → va_P z.1 vwCl (xW z r τ) H → va_D A (xW z r τ) → va_S A s.heap H locs → lv_has ls 5 [] → W p l e { frames := 3, cells := 0, slots := 0, locals := 73 } s m ([.ref (r 9), .int a0] : List Value).toArray below meth c H locs 0 0 Q (F0 m 53 ls [.int (zB s0)]) := by
    intro τ s0 H locs ls hf hP hD hS hl
    unfold F_X7_two_c53 at hf
    exact hend s0 τ H locs 53 ls hf hP hD hS dX7_two_53
  have J_c19 : ∀ (τ : XS) (w2 : Bool) (w3 : Int32) (H : Heap) (locs : List Loc) (ls : Array Slot), F_X7_two_c19 τ a0 w2 w3 = res → va_P z.1 vwCl (xW z r τ) H → va_D A (xW z r τ) → va_S A s.heap H locs → lv_has ls 5 [(0, .ref (r 9)), (1, .int a0), (2, .int (zB w2)), (3, .int w3)] → W p l e { frames := 3, cells := 0, slots := 0, locals := 73 } s m ([.ref (r 9), .int a0] : List Value).toArray below meth c H locs 0 0 Q (F0 m 19 ls []) := by
    intro τ w2 w3 H locs ls hf hP hD hS hl
    unfold F_X7_two_c19 at hf
    refine lv_iload_n hx hb dX7_two_19 rfl (lv_at hl 1 rfl) ?_
    refine lv_bipush (v := 29) hx hb dX7_two_20 (by decide) ?_
    refine k_X1_isOne (a0 := a0) (a1 := (29 : Int32)) S tl_X7_37 ⟨Nat.le_of_ble_eq_true rfl, Nat.le_of_ble_eq_true rfl⟩ hl.1 (Nat.le_of_ble_eq_true rfl) dX7_two_22 ?_
    refine gz_eq (tgt := 30) hx hb dX7_two_25 (by decide) (fun c_25 => ?_) (fun c_25 => ?_)
    · rw [if_neg c_25] at hf
      refine lv_iload_n hx hb dX7_two_30 rfl (lv_at hl 3 rfl) ?_
      refine lv_iconst (v := 2) hx hb dX7_two_31 (by decide) ?_
      refine lv_icmp_ne (tgt := 54) hx hb dX7_two_32 (by decide) (fun c_32 => ?_) (fun c_32 => ?_)
      · rw [if_neg c_32] at hf
        refine lv_iload_n hx hb dX7_two_54 rfl (lv_at hl 3 rfl) ?_
        refine lv_iconst (v := 3) hx hb dX7_two_55 (by decide) ?_
        refine lv_icmp_ne (tgt := 79) hx hb dX7_two_56 (by decide) (fun c_56 => ?_) (fun c_56 => ?_)
        · rw [if_neg c_56] at hf
          refine lv_iload_n hx hb dX7_two_79 rfl (lv_at hl 3 rfl) ?_
          refine lv_bipush (v := 8) hx hb dX7_two_80 (by decide) ?_
          refine lv_icmp_lt (tgt := 91) hx hb dX7_two_82 (by decide) (fun c_82 => ?_) (fun c_82 => ?_)
          · rw [if_pos c_82] at hf
            refine lv_iconst (v := 0) hx hb dX7_two_91 (by decide) ?_
            exact hend false τ H locs 92 ls hf hP hD hS dX7_two_92
          · rw [if_neg c_82] at hf
            refine lv_iload_n hx hb dX7_two_85 rfl (lv_at hl 3 rfl) ?_
            refine lv_bipush (v := 11) hx hb dX7_two_86 (by decide) ?_
            refine lv_icmp_le (tgt := 93) hx hb dX7_two_88 (by decide) (fun c_88 => ?_) (fun c_88 => ?_)
            · rw [if_pos c_88] at hf
              refine lv_aload_n hx hb dX7_two_93 rfl (lv_at hl 0 rfl) ?_
              refine lv_iload_n hx hb dX7_two_94 rfl (lv_at hl 1 rfl) ?_
              refine k_X7_right (a0 := a0) S hK hP tl_X7_45 ⟨Nat.le_of_ble_eq_true rfl, Nat.le_of_ble_eq_true rfl⟩ hl.1 (Nat.le_of_ble_eq_true rfl) dX7_two_95 ?_
              refine lv_l2i hx hb dX7_two_98 rfl ?_
              refine lv_iload_n hx hb dX7_two_99 rfl (lv_at hl 2 rfl) ?_
              refine k_X1_width (a0 := w2) S tl_X7_41 ⟨Nat.le_of_ble_eq_true rfl, Nat.le_of_ble_eq_true rfl⟩ hl.1 (Nat.le_of_ble_eq_true rfl) dX7_two_100 ?_
              refine lv_iconst (v := 1) hx hb dX7_two_103 (by decide) ?_
              refine lv_isub hx hb dX7_two_104 ?_
              refine lv_iand hx hb dX7_two_105 ?_
              refine lv_istore (lv' := [(4, .int ((F_X7_right τ a0).toInt32 &&& ((F_X1_width w2) - (1 : Int32)))), (0, .ref (r 9)), (1, .int a0), (2, .int (zB w2)), (3, .int w3)]) hx hb dX7_two_106 hl (by decide) rfl (fun ls hl => ?_)
              refine lv_aload_n hx hb dX7_two_108 rfl (lv_at hl 1 rfl) ?_
              refine lv_iload_n hx hb dX7_two_109 rfl (lv_at hl 2 rfl) ?_
              refine lv_aload_n hx hb dX7_two_110 rfl (lv_at hl 1 rfl) ?_
              refine lv_iload_n hx hb dX7_two_111 rfl (lv_at hl 2 rfl) ?_
              refine k_X7_left (a0 := a0) S hK hP tl_X7_52 ⟨Nat.le_of_ble_eq_true rfl, Nat.le_of_ble_eq_true rfl⟩ hl.1 (Nat.le_of_ble_eq_true rfl) dX7_two_112 ?_
              refine lv_iload_n hx hb dX7_two_115 rfl (lv_at hl 4 rfl) ?_
              refine lv_bipush (v := 8) hx hb dX7_two_116 (by decide) ?_
              refine lv_isub hx hb dX7_two_118 ?_
              refine lv_iload hx hb dX7_two_119 (lv_at hl 0 rfl) ?_
              refine lv_iload_n hx hb dX7_two_121 rfl (lv_at hl 3 rfl) ?_
              refine k_X1_moved (a0 := (F_X7_left τ a0)) (a1 := (w3 - (8 : Int32))) (a2 := ((F_X7_right τ a0).toInt32 &&& ((F_X1_width w2) - (1 : Int32)))) (a3 := w2) S tl_X7_48 ⟨Nat.le_of_ble_eq_true rfl, Nat.le_of_ble_eq_true rfl⟩ hl.1 (Nat.le_of_ble_eq_true rfl) dX7_two_122 ?_
              refine k_X7_put (a0 := a0) (a1 := (F_X1_moved (F_X7_left τ a0) (w3 - (8 : Int32)) ((F_X7_right τ a0).toInt32 &&& ((F_X1_width w2) - (1 : Int32))) w2)) S hK hA hP hD hS tl_X7_61 ⟨Nat.le_of_ble_eq_true rfl, Nat.le_of_ble_eq_true rfl⟩ hl.1 (Nat.le_of_ble_eq_true rfl) dX7_two_125 (fun H locs hP hD hS => ?_)
              exact J_c128 (F_X7_put τ a0 (F_X1_moved (F_X7_left τ a0) (w3 - (8 : Int32)) ((F_X7_right τ a0).toInt32 &&& ((F_X1_width w2) - (1 : Int32))) w2)).2 (F_X7_put τ a0 (F_X1_moved (F_X7_left τ a0) (w3 - (8 : Int32)) ((F_X7_right τ a0).toInt32 &&& ((F_X1_width w2) - (1 : Int32))) w2)).1 H locs ls hf hP hD hS (lv_sub hl [] rfl)
            · rw [if_neg c_88] at hf
              refine lv_iconst (v := 0) hx hb dX7_two_91 (by decide) ?_
              exact hend false τ H locs 92 ls hf hP hD hS dX7_two_92
        · rw [if_pos c_56] at hf
          refine lv_aload_n hx hb dX7_two_59 rfl (lv_at hl 0 rfl) ?_
          refine lv_iload_n hx hb dX7_two_60 rfl (lv_at hl 1 rfl) ?_
          refine lv_aload_n hx hb dX7_two_61 rfl (lv_at hl 0 rfl) ?_
          refine lv_iload_n hx hb dX7_two_62 rfl (lv_at hl 1 rfl) ?_
          refine k_X7_left (a0 := a0) S hK hP tl_X7_52 ⟨Nat.le_of_ble_eq_true rfl, Nat.le_of_ble_eq_true rfl⟩ hl.1 (Nat.le_of_ble_eq_true rfl) dX7_two_63 ?_
          refine lv_aload_n hx hb dX7_two_66 rfl (lv_at hl 0 rfl) ?_
          refine lv_iload_n hx hb dX7_two_67 rfl (lv_at hl 1 rfl) ?_
          refine k_X7_right (a0 := a0) S hK hP tl_X7_45 ⟨Nat.le_of_ble_eq_true rfl, Nat.le_of_ble_eq_true rfl⟩ hl.1 (Nat.le_of_ble_eq_true rfl) dX7_two_68 ?_
          refine lv_iload_n hx hb dX7_two_71 rfl (lv_at hl 2 rfl) ?_
          refine k_X7_signedQuotient (a0 := (F_X7_left τ a0)) (a1 := (F_X7_right τ a0)) (a2 := w2) S tl_X7_87 ⟨Nat.le_of_ble_eq_true rfl, Nat.le_of_ble_eq_true rfl⟩ hl.1 (Nat.le_of_ble_eq_true rfl) dX7_two_72 ?_
          refine k_X7_put (a0 := a0) (a1 := (F_X7_signedQuotient (F_X7_left τ a0) (F_X7_right τ a0) w2)) S hK hA hP hD hS tl_X7_61 ⟨Nat.le_of_ble_eq_true rfl, Nat.le_of_ble_eq_true rfl⟩ hl.1 (Nat.le_of_ble_eq_true rfl) dX7_two_75 (fun H locs hP hD hS => ?_)
          exact J_c78 (F_X7_put τ a0 (F_X7_signedQuotient (F_X7_left τ a0) (F_X7_right τ a0) w2)).2 (F_X7_put τ a0 (F_X7_signedQuotient (F_X7_left τ a0) (F_X7_right τ a0) w2)).1 H locs ls hf hP hD hS (lv_sub hl [] rfl)
      · rw [if_pos c_32] at hf
        refine lv_aload_n hx hb dX7_two_35 rfl (lv_at hl 0 rfl) ?_
        refine lv_iload_n hx hb dX7_two_36 rfl (lv_at hl 1 rfl) ?_
        refine lv_aload_n hx hb dX7_two_37 rfl (lv_at hl 0 rfl) ?_
        refine lv_iload_n hx hb dX7_two_38 rfl (lv_at hl 1 rfl) ?_
        refine k_X7_left (a0 := a0) S hK hP tl_X7_52 ⟨Nat.le_of_ble_eq_true rfl, Nat.le_of_ble_eq_true rfl⟩ hl.1 (Nat.le_of_ble_eq_true rfl) dX7_two_39 ?_
        refine lv_aload_n hx hb dX7_two_42 rfl (lv_at hl 0 rfl) ?_
        refine lv_iload_n hx hb dX7_two_43 rfl (lv_at hl 1 rfl) ?_
        refine k_X7_right (a0 := a0) S hK hP tl_X7_45 ⟨Nat.le_of_ble_eq_true rfl, Nat.le_of_ble_eq_true rfl⟩ hl.1 (Nat.le_of_ble_eq_true rfl) dX7_two_44 ?_
        refine k_X7_quotient (a0 := (F_X7_left τ a0)) (a1 := (F_X7_right τ a0)) S tl_X7_84 ⟨Nat.le_of_ble_eq_true rfl, Nat.le_of_ble_eq_true rfl⟩ hl.1 (Nat.le_of_ble_eq_true rfl) dX7_two_47 ?_
        refine k_X7_put (a0 := a0) (a1 := (F_X7_quotient (F_X7_left τ a0) (F_X7_right τ a0))) S hK hA hP hD hS tl_X7_61 ⟨Nat.le_of_ble_eq_true rfl, Nat.le_of_ble_eq_true rfl⟩ hl.1 (Nat.le_of_ble_eq_true rfl) dX7_two_50 (fun H locs hP hD hS => ?_)
        exact J_c53 (F_X7_put τ a0 (F_X7_quotient (F_X7_left τ a0) (F_X7_right τ a0))).2 (F_X7_put τ a0 (F_X7_quotient (F_X7_left τ a0) (F_X7_right τ a0))).1 H locs ls hf hP hD hS (lv_sub hl [] rfl)
    · rw [if_pos c_25] at hf
      refine lv_iconst (v := 0) hx hb dX7_two_28 (by decide) ?_
      exact hend false τ H locs 29 ls hf hP hD hS dX7_two_29
  have J_c9 : ∀ (τ : XS) (s0 : Bool) (H : Heap) (locs : List Loc) (ls : Array Slot), F_X7_two_c9 τ a0 s0 = res → va_P z.1 vwCl (xW z r τ) H → va_D A (xW z r τ) → va_S A s.heap H locs → lv_has ls 5 [(0, .ref (r 9)), (1, .int a0)] → W p l e { frames := 3, cells := 0, slots := 0, locals := 73 } s m ([.ref (r 9), .int a0] : List Value).toArray below meth c H locs 0 0 Q (F0 m 9 ls [.int (zB s0)]) := by
    intro τ s0 H locs ls hf hP hD hS hl
    unfold F_X7_two_c9 at hf
    refine lv_istore_n (lv' := [(2, .int (zB s0)), (0, .ref (r 9)), (1, .int a0)]) hx hb dX7_two_9 rfl hl (by decide) rfl (fun ls hl => ?_)
    refine lv_iload_n hx hb dX7_two_10 rfl (lv_at hl 2 rfl) ?_
    refine lv_bipush (v := 10) hx hb dX7_two_11 (by decide) ?_
    refine lv_bipush (v := 6) hx hb dX7_two_13 (by decide) ?_
    refine k_X1_field (a0 := a0) (a1 := (10 : Int32)) (a2 := (6 : Int32)) S tl_X7_17 ⟨Nat.le_of_ble_eq_true rfl, Nat.le_of_ble_eq_true rfl⟩ hl.1 (Nat.le_of_ble_eq_true rfl) dX7_two_15 ?_
    refine lv_istore_n (lv' := [(3, .int (F_X1_field a0 (10 : Int32) (6 : Int32))), (2, .int (zB s0)), (0, .ref (r 9)), (1, .int a0)]) hx hb dX7_two_18 rfl hl (by decide) rfl (fun ls hl => ?_)
    exact J_c19 τ s0 (F_X1_field a0 (10 : Int32) (6 : Int32)) H locs ls hf hP hD hS (lv_sub hl [2, 3, 1, 0] rfl)
  unfold F_X7_two at hf
  refine lv_iload_n hx hb dX7_two_0 rfl (lv_at hl 1 rfl) ?_
  refine lv_if_ge (tgt := 8) hx hb dX7_two_1 (by decide) (fun c_1 => ?_) (fun c_1 => ?_)
  · rw [if_pos c_1] at hf
    refine lv_iconst (v := 0) hx hb dX7_two_8 (by decide) ?_
    exact J_c9 σ false H locs ls hf hP hD hS (lv_sub hl [0, 1] rfl)
  · rw [if_neg c_1] at hf
    refine lv_iconst (v := 1) hx hb dX7_two_4 (by decide) ?_
    refine lv_goto (tgt := 9) hx hb dX7_two_5 (by decide) ?_
    exact J_c9 σ true H locs ls hf hP hD hS (lv_sub hl [0, 1] rfl)
theorem k_X7_two {p : Program} {l : Launch} {e : Env} {R : Room} {s : State} {m : MethodId} {args : Array Value} {below : List Frame} {meth : Method} {c : Code} {H : Heap} {locs : List Loc} {Q : State → Prop} {cc : ByteArray} {pc : Nat} {ls : Array Slot} {rest : List Value} {own : String} {index nL : Nat} {A : Nat → Prop} {z : Cx} {r : Nat → Nat} {σ : XS} {a0 : Int32} (S : CallFix p m c cc nL s args tbG own) (hK : va_K z.1 vwCl (cxT z) s) (hA : ∀ q, s.heap.size ≤ q → A q) (hP : va_P z.1 vwCl (xW z r σ) H) (hD : va_D A (xW z r σ)) (hS : va_S A s.heap H locs) (hl : Cond.methodLink own index yX7_two ∈ tbG) (hR : 3 + 1 ≤ R.frames ∧ 8 + (5 + 11) + 73 ≤ R.locals) (hsz : ls.size = nL) (hcat : (rest.map fun v => v.category).sum ≤ 8) (hdg : decode cc pc = .ok (.invokevirtual index, 3)) (kk : ∀ (H : Heap) (locs : List Loc), va_P z.1 vwCl (xW z r (F_X7_two σ a0).2) H → va_D A (xW z r (F_X7_two σ a0).2) → va_S A s.heap H locs → W p l e R s m args below meth c H locs 0 0 Q (F0 m (pc + 3) ls (.int (zB (F_X7_two σ a0).1) :: rest))) : W p l e R s m args below meth c H locs 0 0 Q (F0 m pc ls (.int a0 :: .ref (r 9) :: rest)) :=
  km (As := [.int a0]) (ov := some (.int (zB (F_X7_two σ a0).1))) (w' := xW z r (F_X7_two σ a0).2) (q0 := 9) (ci := 6) S hK hA hP hD hS (c_X7_two l z r σ a0 H.size _ rfl) ⟨tb_cB 1 S.2.2.2.2 tc_X7_two ti_X7 hl rfl rfl (by decide +kernel) hR, S.2.2.2.2 _ tm_X7_two, S.2.2.2.2 _ te_X7_two⟩ rfl rfl rfl rfl hsz rfl hcat hdg kk

theorem dX6_performsRegisters_0 : decode cX6_performsRegisters 0 = .ok (.aload_n 0, 1) := by decide +kernel
theorem dX6_performsRegisters_1 : decode cX6_performsRegisters 1 = .ok (.getfield 100, 3) := by decide +kernel
theorem dX6_performsRegisters_4 : decode cX6_performsRegisters 4 = .ok (.bipush 21, 2) := by decide +kernel
theorem dX6_performsRegisters_6 : decode cX6_performsRegisters 6 = .ok (.iushr, 1) := by decide +kernel
theorem dX6_performsRegisters_7 : decode cX6_performsRegisters 7 = .ok (.sipush 255, 3) := by decide +kernel
theorem dX6_performsRegisters_10 : decode cX6_performsRegisters 10 = .ok (.iand, 1) := by decide +kernel
theorem dX6_performsRegisters_11 : decode cX6_performsRegisters 11 = .ok (.tableswitch 95 210 214 #[33, 95, 45, 95, 57], 33) := by decide +kernel
theorem dX6_performsRegisters_44 : decode cX6_performsRegisters 44 = .ok (.aload_n 0, 1) := by decide +kernel
theorem dX6_performsRegisters_45 : decode cX6_performsRegisters 45 = .ok (.getfield 38, 3) := by decide +kernel
theorem dX6_performsRegisters_48 : decode cX6_performsRegisters 48 = .ok (.aload_n 0, 1) := by decide +kernel
theorem dX6_performsRegisters_49 : decode cX6_performsRegisters 49 = .ok (.getfield 100, 3) := by decide +kernel
theorem dX6_performsRegisters_52 : decode cX6_performsRegisters 52 = .ok (.invokevirtual 189, 3) := by decide +kernel
theorem dX6_performsRegisters_55 : decode cX6_performsRegisters 55 = .ok (.ireturn, 1) := by decide +kernel
theorem dX6_performsRegisters_56 : decode cX6_performsRegisters 56 = .ok (.aload_n 0, 1) := by decide +kernel
theorem dX6_performsRegisters_57 : decode cX6_performsRegisters 57 = .ok (.getfield 38, 3) := by decide +kernel
theorem dX6_performsRegisters_60 : decode cX6_performsRegisters 60 = .ok (.aload_n 0, 1) := by decide +kernel
theorem dX6_performsRegisters_61 : decode cX6_performsRegisters 61 = .ok (.getfield 100, 3) := by decide +kernel
theorem dX6_performsRegisters_64 : decode cX6_performsRegisters 64 = .ok (.invokevirtual 192, 3) := by decide +kernel
theorem dX6_performsRegisters_67 : decode cX6_performsRegisters 67 = .ok (.ireturn, 1) := by decide +kernel
theorem dX6_performsRegisters_68 : decode cX6_performsRegisters 68 = .ok (.aload_n 0, 1) := by decide +kernel
theorem dX6_performsRegisters_69 : decode cX6_performsRegisters 69 = .ok (.getfield 100, 3) := by decide +kernel
theorem dX6_performsRegisters_72 : decode cX6_performsRegisters 72 = .ok (.bipush 30, 2) := by decide +kernel
theorem dX6_performsRegisters_74 : decode cX6_performsRegisters 74 = .ok (.invokestatic 120, 3) := by decide +kernel
theorem dX6_performsRegisters_77 : decode cX6_performsRegisters 77 = .ok (.ifCond .eq 17, 3) := by decide +kernel
theorem dX6_performsRegisters_80 : decode cX6_performsRegisters 80 = .ok (.aload_n 0, 1) := by decide +kernel
theorem dX6_performsRegisters_81 : decode cX6_performsRegisters 81 = .ok (.getfield 38, 3) := by decide +kernel
theorem dX6_performsRegisters_84 : decode cX6_performsRegisters 84 = .ok (.aload_n 0, 1) := by decide +kernel
theorem dX6_performsRegisters_85 : decode cX6_performsRegisters 85 = .ok (.getfield 100, 3) := by decide +kernel
theorem dX6_performsRegisters_88 : decode cX6_performsRegisters 88 = .ok (.invokevirtual 195, 3) := by decide +kernel
theorem dX6_performsRegisters_91 : decode cX6_performsRegisters 91 = .ok (.goto 14, 3) := by decide +kernel
theorem dX6_performsRegisters_94 : decode cX6_performsRegisters 94 = .ok (.aload_n 0, 1) := by decide +kernel
theorem dX6_performsRegisters_95 : decode cX6_performsRegisters 95 = .ok (.getfield 38, 3) := by decide +kernel
theorem dX6_performsRegisters_98 : decode cX6_performsRegisters 98 = .ok (.aload_n 0, 1) := by decide +kernel
theorem dX6_performsRegisters_99 : decode cX6_performsRegisters 99 = .ok (.getfield 100, 3) := by decide +kernel
theorem dX6_performsRegisters_102 : decode cX6_performsRegisters 102 = .ok (.invokevirtual 198, 3) := by decide +kernel
theorem dX6_performsRegisters_105 : decode cX6_performsRegisters 105 = .ok (.ireturn, 1) := by decide +kernel
theorem dX6_performsRegisters_106 : decode cX6_performsRegisters 106 = .ok (.iconst 0, 1) := by decide +kernel
theorem dX6_performsRegisters_107 : decode cX6_performsRegisters 107 = .ok (.ireturn, 1) := by decide +kernel
def F_X6_performsRegisters (σ : XS)  : Bool × XS := (if ((j_iushr (xO σ) (21 : Int32)) &&& (255 : Int32)) = 210 then ((F_X7_compare σ (xO σ)).1, (F_X7_compare σ (xO σ)).2) else (if ((j_iushr (xO σ) (21 : Int32)) &&& (255 : Int32)) = 212 then ((F_X7_choose σ (xO σ)).1, (F_X7_choose σ (xO σ)).2) else (if ((j_iushr (xO σ) (21 : Int32)) &&& (255 : Int32)) = 214 then (if (F_X1_isOne (xO σ) (30 : Int32)) = true then ((F_X7_one σ (xO σ)).1, (F_X7_one σ (xO σ)).2) else ((F_X7_two σ (xO σ)).1, (F_X7_two σ (xO σ)).2)) else (false, σ))))
set_option maxHeartbeats 4000000 in
set_option maxRecDepth 100000 in
theorem c_X6_performsRegisters (l : Launch) (z : Cx) (r : Nat → Nat) (σ : XS) (sz : Nat) (res : Bool × XS) (hf : F_X6_performsRegisters σ = res) : Met l yX6_performsRegisters (wsC yX6_performsRegisters cX6_performsRegisters 1 (some .boolean)) { frames := 5, cells := 0, slots := 0, locals := 114 } (mPc z (xW z r σ) sz [.ref (r 6)]) (gM z (va_A (xW z r σ) sz) (some (.int (zB res.1))) (xW z r res.2)) 0 0 (va_A (xW z r σ) sz) := by
  refine mk_m_z (own := RX6) (wf := xW z r) (by decide) rfl sz _ (Nat.le_of_ble_eq_true rfl) (fun p e s m below meth c A H locs Q ls S hK hA hP hD hS hl hend => ?_)
  have hx := S.1
  have hb := S.2.1
  have hown := S.2.2.2.1
  have hts := S.2.2.2.2
  have hl : lv_has ls 1 [(0, .ref (r 6))] := hl
  unfold F_X6_performsRegisters at hf
  refine lv_aload_n hx hb dX6_performsRegisters_0 rfl (lv_at hl 0 rfl) ?_
  refine fg_X6_word S hK hP tf_X6_100 dX6_performsRegisters_1 ?_
  refine lv_bipush (v := 21) hx hb dX6_performsRegisters_4 (by decide) ?_
  refine lv_iushr (v := (j_iushr (xO σ) (21 : Int32))) hx hb dX6_performsRegisters_6 rfl ?_
  refine lv_sipush (v := 255) hx hb dX6_performsRegisters_7 (by decide) ?_
  refine lv_iand hx hb dX6_performsRegisters_10 ?_
  by_cases c_11_210 : ((j_iushr (xO σ) (21 : Int32)) &&& (255 : Int32)) = 210
  · rw [if_pos c_11_210] at hf
    refine gt_in (k := 210) (tgt := 44) hx hb dX6_performsRegisters_11 c_11_210 (by decide) (by decide) rfl (by decide) ?_
    refine lv_aload_n hx hb dX6_performsRegisters_44 rfl (lv_at hl 0 rfl) ?_
    refine fg_X6_registers S hK hP tf_X6_38 dX6_performsRegisters_45 ?_
    refine lv_aload_n hx hb dX6_performsRegisters_48 rfl (lv_at hl 0 rfl) ?_
    refine fg_X6_word S hK hP tf_X6_100 dX6_performsRegisters_49 ?_
    refine k_X7_compare (a0 := (xO σ)) S hK hA hP hD hS tl_X6_189 ⟨Nat.le_of_ble_eq_true rfl, Nat.le_of_ble_eq_true rfl⟩ hl.1 (Nat.le_of_ble_eq_true rfl) dX6_performsRegisters_52 (fun H locs hP hD hS => ?_)
    exact hend (F_X7_compare σ (xO σ)).1 (F_X7_compare σ (xO σ)).2 H locs 55 ls hf hP hD hS dX6_performsRegisters_55
  rw [if_neg c_11_210] at hf
  by_cases c_11_212 : ((j_iushr (xO σ) (21 : Int32)) &&& (255 : Int32)) = 212
  · rw [if_pos c_11_212] at hf
    refine gt_in (k := 212) (tgt := 56) hx hb dX6_performsRegisters_11 c_11_212 (by decide) (by decide) rfl (by decide) ?_
    refine lv_aload_n hx hb dX6_performsRegisters_56 rfl (lv_at hl 0 rfl) ?_
    refine fg_X6_registers S hK hP tf_X6_38 dX6_performsRegisters_57 ?_
    refine lv_aload_n hx hb dX6_performsRegisters_60 rfl (lv_at hl 0 rfl) ?_
    refine fg_X6_word S hK hP tf_X6_100 dX6_performsRegisters_61 ?_
    refine k_X7_choose (a0 := (xO σ)) S hK hA hP hD hS tl_X6_192 ⟨Nat.le_of_ble_eq_true rfl, Nat.le_of_ble_eq_true rfl⟩ hl.1 (Nat.le_of_ble_eq_true rfl) dX6_performsRegisters_64 (fun H locs hP hD hS => ?_)
    exact hend (F_X7_choose σ (xO σ)).1 (F_X7_choose σ (xO σ)).2 H locs 67 ls hf hP hD hS dX6_performsRegisters_67
  rw [if_neg c_11_212] at hf
  by_cases c_11_214 : ((j_iushr (xO σ) (21 : Int32)) &&& (255 : Int32)) = 214
  · rw [if_pos c_11_214] at hf
    refine gt_in (k := 214) (tgt := 68) hx hb dX6_performsRegisters_11 c_11_214 (by decide) (by decide) rfl (by decide) ?_
    refine lv_aload_n hx hb dX6_performsRegisters_68 rfl (lv_at hl 0 rfl) ?_
    refine fg_X6_word S hK hP tf_X6_100 dX6_performsRegisters_69 ?_
    refine lv_bipush (v := 30) hx hb dX6_performsRegisters_72 (by decide) ?_
    refine k_X1_isOne (a0 := (xO σ)) (a1 := (30 : Int32)) S tl_X6_120 ⟨Nat.le_of_ble_eq_true rfl, Nat.le_of_ble_eq_true rfl⟩ hl.1 (Nat.le_of_ble_eq_true rfl) dX6_performsRegisters_74 ?_
    refine gz_eq (tgt := 94) hx hb dX6_performsRegisters_77 (by decide) (fun c_77 => ?_) (fun c_77 => ?_)
    · rw [if_neg c_77] at hf
      refine lv_aload_n hx hb dX6_performsRegisters_94 rfl (lv_at hl 0 rfl) ?_
      refine fg_X6_registers S hK hP tf_X6_38 dX6_performsRegisters_95 ?_
      refine lv_aload_n hx hb dX6_performsRegisters_98 rfl (lv_at hl 0 rfl) ?_
      refine fg_X6_word S hK hP tf_X6_100 dX6_performsRegisters_99 ?_
      refine k_X7_two (a0 := (xO σ)) S hK hA hP hD hS tl_X6_198 ⟨Nat.le_of_ble_eq_true rfl, Nat.le_of_ble_eq_true rfl⟩ hl.1 (Nat.le_of_ble_eq_true rfl) dX6_performsRegisters_102 (fun H locs hP hD hS => ?_)
      exact hend (F_X7_two σ (xO σ)).1 (F_X7_two σ (xO σ)).2 H locs 105 ls hf hP hD hS dX6_performsRegisters_105
    · rw [if_pos c_77] at hf
      refine lv_aload_n hx hb dX6_performsRegisters_80 rfl (lv_at hl 0 rfl) ?_
      refine fg_X6_registers S hK hP tf_X6_38 dX6_performsRegisters_81 ?_
      refine lv_aload_n hx hb dX6_performsRegisters_84 rfl (lv_at hl 0 rfl) ?_
      refine fg_X6_word S hK hP tf_X6_100 dX6_performsRegisters_85 ?_
      refine k_X7_one (a0 := (xO σ)) S hK hA hP hD hS tl_X6_195 ⟨Nat.le_of_ble_eq_true rfl, Nat.le_of_ble_eq_true rfl⟩ hl.1 (Nat.le_of_ble_eq_true rfl) dX6_performsRegisters_88 (fun H locs hP hD hS => ?_)
      refine lv_goto (tgt := 105) hx hb dX6_performsRegisters_91 (by decide) ?_
      exact hend (F_X7_one σ (xO σ)).1 (F_X7_one σ (xO σ)).2 H locs 105 ls hf hP hD hS dX6_performsRegisters_105
  rw [if_neg c_11_214] at hf
  by_cases c_11_211 : ((j_iushr (xO σ) (21 : Int32)) &&& (255 : Int32)) = 211
  · refine gt_in (k := 211) (tgt := 106) hx hb dX6_performsRegisters_11 c_11_211 (by decide) (by decide) rfl (by decide) ?_
    refine lv_iconst (v := 0) hx hb dX6_performsRegisters_106 (by decide) ?_
    exact hend false σ H locs 107 ls hf hP hD hS dX6_performsRegisters_107
  by_cases c_11_213 : ((j_iushr (xO σ) (21 : Int32)) &&& (255 : Int32)) = 213
  · refine gt_in (k := 213) (tgt := 106) hx hb dX6_performsRegisters_11 c_11_213 (by decide) (by decide) rfl (by decide) ?_
    refine lv_iconst (v := 0) hx hb dX6_performsRegisters_106 (by decide) ?_
    exact hend false σ H locs 107 ls hf hP hD hS dX6_performsRegisters_107
  refine lv_tableOut (tgt := 106) hx hb dX6_performsRegisters_11 (by have q0 := lv_neT c_11_210 (show ((210 : Int32)).toInt = 210 from rfl); have q1 := lv_neT c_11_211 (show ((211 : Int32)).toInt = 211 from rfl); have q2 := lv_neT c_11_212 (show ((212 : Int32)).toInt = 212 from rfl); have q3 := lv_neT c_11_213 (show ((213 : Int32)).toInt = 213 from rfl); have q4 := lv_neT c_11_214 (show ((214 : Int32)).toInt = 214 from rfl); omega) (by decide) ?_
  refine lv_iconst (v := 0) hx hb dX6_performsRegisters_106 (by decide) ?_
  exact hend false σ H locs 107 ls hf hP hD hS dX6_performsRegisters_107
theorem k_X6_performsRegisters {p : Program} {l : Launch} {e : Env} {R : Room} {s : State} {m : MethodId} {args : Array Value} {below : List Frame} {meth : Method} {c : Code} {H : Heap} {locs : List Loc} {Q : State → Prop} {cc : ByteArray} {pc : Nat} {ls : Array Slot} {rest : List Value} {own : String} {index nL : Nat} {A : Nat → Prop} {z : Cx} {r : Nat → Nat} {σ : XS} (S : CallFix p m c cc nL s args tbG own) (hK : va_K z.1 vwCl (cxT z) s) (hA : ∀ q, s.heap.size ≤ q → A q) (hP : va_P z.1 vwCl (xW z r σ) H) (hD : va_D A (xW z r σ)) (hS : va_S A s.heap H locs) (hl : Cond.methodLink own index yX6_performsRegisters ∈ tbG) (hR : 5 + 1 ≤ R.frames ∧ 8 + (1 + 11) + 114 ≤ R.locals) (hsz : ls.size = nL) (hcat : (rest.map fun v => v.category).sum ≤ 8) (hdg : decode cc pc = .ok (.invokevirtual index, 3)) (kk : ∀ (H : Heap) (locs : List Loc), va_P z.1 vwCl (xW z r (F_X6_performsRegisters σ).2) H → va_D A (xW z r (F_X6_performsRegisters σ).2) → va_S A s.heap H locs → W p l e R s m args below meth c H locs 0 0 Q (F0 m (pc + 3) ls (.int (zB (F_X6_performsRegisters σ).1) :: rest))) : W p l e R s m args below meth c H locs 0 0 Q (F0 m pc ls (.ref (r 6) :: rest)) :=
  km (As := []) (ov := some (.int (zB (F_X6_performsRegisters σ).1))) (w' := xW z r (F_X6_performsRegisters σ).2) (q0 := 6) (ci := 5) S hK hA hP hD hS (c_X6_performsRegisters l z r σ H.size _ rfl) ⟨tb_cB 0 S.2.2.2.2 tc_X6_performsRegisters ti_X6 hl rfl rfl (by decide +kernel) hR, S.2.2.2.2 _ tm_X6_performsRegisters, S.2.2.2.2 _ te_X6_performsRegisters⟩ rfl rfl rfl rfl hsz rfl hcat hdg kk

theorem dX7_times_0 : decode cX7_times 0 = .ok (.iload_n 1, 1) := by decide +kernel
theorem dX7_times_1 : decode cX7_times 1 = .ok (.bipush 21, 2) := by decide +kernel
theorem dX7_times_3 : decode cX7_times 3 = .ok (.bipush 10, 2) := by decide +kernel
theorem dX7_times_5 : decode cX7_times 5 = .ok (.invokestatic 17, 3) := by decide +kernel
theorem dX7_times_8 : decode cX7_times 8 = .ok (.sipush 216, 3) := by decide +kernel
theorem dX7_times_11 : decode cX7_times 11 = .ok (.if_icmp .eq 5, 3) := by decide +kernel
theorem dX7_times_14 : decode cX7_times 14 = .ok (.iconst 0, 1) := by decide +kernel
theorem dX7_times_15 : decode cX7_times 15 = .ok (.ireturn, 1) := by decide +kernel
theorem dX7_times_16 : decode cX7_times 16 = .ok (.aload_n 0, 1) := by decide +kernel
theorem dX7_times_17 : decode cX7_times 17 = .ok (.iload_n 1, 1) := by decide +kernel
theorem dX7_times_18 : decode cX7_times 18 = .ok (.invokevirtual 52, 3) := by decide +kernel
theorem dX7_times_21 : decode cX7_times 21 = .ok (.aload_n 0, 1) := by decide +kernel
theorem dX7_times_22 : decode cX7_times 22 = .ok (.iload_n 1, 1) := by decide +kernel
theorem dX7_times_23 : decode cX7_times 23 = .ok (.invokevirtual 45, 3) := by decide +kernel
theorem dX7_times_26 : decode cX7_times 26 = .ok (.lmul, 1) := by decide +kernel
theorem dX7_times_27 : decode cX7_times 27 = .ok (.lstore_n 2, 1) := by decide +kernel
theorem dX7_times_28 : decode cX7_times 28 = .ok (.aload_n 0, 1) := by decide +kernel
theorem dX7_times_29 : decode cX7_times 29 = .ok (.getfield 7, 3) := by decide +kernel
theorem dX7_times_32 : decode cX7_times 32 = .ok (.iload_n 1, 1) := by decide +kernel
theorem dX7_times_33 : decode cX7_times 33 = .ok (.bipush 10, 2) := by decide +kernel
theorem dX7_times_35 : decode cX7_times 35 = .ok (.iconst 5, 1) := by decide +kernel
theorem dX7_times_36 : decode cX7_times 36 = .ok (.invokestatic 17, 3) := by decide +kernel
theorem dX7_times_39 : decode cX7_times 39 = .ok (.invokevirtual 23, 3) := by decide +kernel
theorem dX7_times_42 : decode cX7_times 42 = .ok (.lstore 4, 2) := by decide +kernel
theorem dX7_times_44 : decode cX7_times 44 = .ok (.aload_n 0, 1) := by decide +kernel
theorem dX7_times_45 : decode cX7_times 45 = .ok (.iload_n 1, 1) := by decide +kernel
theorem dX7_times_46 : decode cX7_times 46 = .ok (.iload_n 1, 1) := by decide +kernel
theorem dX7_times_47 : decode cX7_times 47 = .ok (.bipush 15, 2) := by decide +kernel
theorem dX7_times_49 : decode cX7_times 49 = .ok (.invokestatic 37, 3) := by decide +kernel
theorem dX7_times_52 : decode cX7_times 52 = .ok (.ifCond .eq 10, 3) := by decide +kernel
theorem dX7_times_55 : decode cX7_times 55 = .ok (.lload 4, 2) := by decide +kernel
theorem dX7_times_57 : decode cX7_times 57 = .ok (.lload_n 2, 1) := by decide +kernel
theorem dX7_times_58 : decode cX7_times 58 = .ok (.lsub, 1) := by decide +kernel
theorem dX7_times_59 : decode cX7_times 59 = .ok (.goto 7, 3) := by decide +kernel
theorem dX7_times_62 : decode cX7_times 62 = .ok (.lload 4, 2) := by decide +kernel
theorem dX7_times_64 : decode cX7_times 64 = .ok (.lload_n 2, 1) := by decide +kernel
theorem dX7_times_65 : decode cX7_times 65 = .ok (.ladd, 1) := by decide +kernel
theorem dX7_times_66 : decode cX7_times 66 = .ok (.invokevirtual 61, 3) := by decide +kernel
theorem dX7_times_69 : decode cX7_times 69 = .ok (.ireturn, 1) := by decide +kernel
def F_X7_times_c66 (τ : XS) (a0 : Int32) (s1 : Int32) (s2 : Int64) : Bool × XS := ((F_X7_put τ s1 s2).1, (F_X7_put τ s1 s2).2)
def F_X7_times_c44 (τ : XS) (a0 : Int32) (w2 : Int64) (w4 : Int64) : Bool × XS := (if (F_X1_isOne a0 (15 : Int32)) = true then (F_X7_times_c66 τ a0 a0 (w4 - w2)) else (F_X7_times_c66 τ a0 a0 (w4 + w2)))
def F_X7_times_c28 (τ : XS) (a0 : Int32) (w2 : Int64) : Bool × XS := (F_X7_times_c44 τ a0 w2 (F_X8_register τ (F_X1_field a0 (10 : Int32) (5 : Int32))))
def F_X7_times (σ : XS) (a0 : Int32) : Bool × XS := (if (F_X1_field a0 (21 : Int32) (10 : Int32)) = (216 : Int32) then (F_X7_times_c28 σ a0 ((F_X7_left σ a0) * (F_X7_right σ a0))) else (false, σ))
set_option maxHeartbeats 4000000 in
set_option maxRecDepth 100000 in
theorem c_X7_times (l : Launch) (z : Cx) (r : Nat → Nat) (σ : XS) (a0 : Int32) (sz : Nat) (res : Bool × XS) (hf : F_X7_times σ a0 = res) : Met l yX7_times (wsC yX7_times cX7_times 6 (some .boolean)) { frames := 3, cells := 0, slots := 0, locals := 69 } (mPc z (xW z r σ) sz [.ref (r 9), .int a0]) (gM z (va_A (xW z r σ) sz) (some (.int (zB res.1))) (xW z r res.2)) 0 0 (va_A (xW z r σ) sz) := by
  refine mk_m_z (own := RX7) (wf := xW z r) (by decide) rfl sz _ (Nat.le_of_ble_eq_true rfl) (fun p e s m below meth c A H locs Q ls S hK hA hP hD hS hl hend => ?_)
  have hx := S.1
  have hb := S.2.1
  have hown := S.2.2.2.1
  have hts := S.2.2.2.2
  have hl : lv_has ls 6 [(0, .ref (r 9)), (1, .int a0)] := hl
  have J_c66 : ∀ (τ : XS) (s1 : Int32) (s2 : Int64) (H : Heap) (locs : List Loc) (ls : Array Slot), F_X7_times_c66 τ a0 s1 s2 = res → va_P z.1 vwCl (xW z r τ) H → va_D A (xW z r τ) → va_S A s.heap H locs → lv_has ls 6 [] → W p l e { frames := 3, cells := 0, slots := 0, locals := 69 } s m ([.ref (r 9), .int a0] : List Value).toArray below meth c H locs 0 0 Q (F0 m 66 ls [.long s2, .int s1, .ref (r 9)]) := by
    intro τ s1 s2 H locs ls hf hP hD hS hl
    unfold F_X7_times_c66 at hf
    refine k_X7_put (a0 := s1) (a1 := s2) S hK hA hP hD hS tl_X7_61 ⟨Nat.le_of_ble_eq_true rfl, Nat.le_of_ble_eq_true rfl⟩ hl.1 (Nat.le_of_ble_eq_true rfl) dX7_times_66 (fun H locs hP hD hS => ?_)
    exact hend (F_X7_put τ s1 s2).1 (F_X7_put τ s1 s2).2 H locs 69 ls hf hP hD hS dX7_times_69
  have J_c44 : ∀ (τ : XS) (w2 : Int64) (w4 : Int64) (H : Heap) (locs : List Loc) (ls : Array Slot), F_X7_times_c44 τ a0 w2 w4 = res → va_P z.1 vwCl (xW z r τ) H → va_D A (xW z r τ) → va_S A s.heap H locs → lv_has ls 6 [(0, .ref (r 9)), (1, .int a0), (2, .long w2), (4, .long w4)] → W p l e { frames := 3, cells := 0, slots := 0, locals := 69 } s m ([.ref (r 9), .int a0] : List Value).toArray below meth c H locs 0 0 Q (F0 m 44 ls []) := by
    intro τ w2 w4 H locs ls hf hP hD hS hl
    unfold F_X7_times_c44 at hf
    refine lv_aload_n hx hb dX7_times_44 rfl (lv_at hl 0 rfl) ?_
    refine lv_iload_n hx hb dX7_times_45 rfl (lv_at hl 1 rfl) ?_
    refine lv_iload_n hx hb dX7_times_46 rfl (lv_at hl 1 rfl) ?_
    refine lv_bipush (v := 15) hx hb dX7_times_47 (by decide) ?_
    refine k_X1_isOne (a0 := a0) (a1 := (15 : Int32)) S tl_X7_37 ⟨Nat.le_of_ble_eq_true rfl, Nat.le_of_ble_eq_true rfl⟩ hl.1 (Nat.le_of_ble_eq_true rfl) dX7_times_49 ?_
    refine gz_eq (tgt := 62) hx hb dX7_times_52 (by decide) (fun c_52 => ?_) (fun c_52 => ?_)
    · rw [if_neg c_52] at hf
      refine lv_lload hx hb dX7_times_62 (lv_at hl 3 rfl) ?_
      refine lv_lload_n hx hb dX7_times_64 rfl (lv_at hl 2 rfl) ?_
      refine lv_ladd hx hb dX7_times_65 ?_
      exact J_c66 τ a0 (w4 + w2) H locs ls hf hP hD hS (lv_sub hl [] rfl)
    · rw [if_pos c_52] at hf
      refine lv_lload hx hb dX7_times_55 (lv_at hl 3 rfl) ?_
      refine lv_lload_n hx hb dX7_times_57 rfl (lv_at hl 2 rfl) ?_
      refine lv_lsub hx hb dX7_times_58 ?_
      refine lv_goto (tgt := 66) hx hb dX7_times_59 (by decide) ?_
      exact J_c66 τ a0 (w4 - w2) H locs ls hf hP hD hS (lv_sub hl [] rfl)
  have J_c28 : ∀ (τ : XS) (w2 : Int64) (H : Heap) (locs : List Loc) (ls : Array Slot), F_X7_times_c28 τ a0 w2 = res → va_P z.1 vwCl (xW z r τ) H → va_D A (xW z r τ) → va_S A s.heap H locs → lv_has ls 6 [(0, .ref (r 9)), (1, .int a0), (2, .long w2)] → W p l e { frames := 3, cells := 0, slots := 0, locals := 69 } s m ([.ref (r 9), .int a0] : List Value).toArray below meth c H locs 0 0 Q (F0 m 28 ls []) := by
    intro τ w2 H locs ls hf hP hD hS hl
    unfold F_X7_times_c28 at hf
    refine lv_aload_n hx hb dX7_times_28 rfl (lv_at hl 0 rfl) ?_
    refine fg_X7_state S hK hP tf_X7_7 dX7_times_29 ?_
    refine lv_iload_n hx hb dX7_times_32 rfl (lv_at hl 1 rfl) ?_
    refine lv_bipush (v := 10) hx hb dX7_times_33 (by decide) ?_
    refine lv_iconst (v := 5) hx hb dX7_times_35 (by decide) ?_
    refine k_X1_field (a0 := a0) (a1 := (10 : Int32)) (a2 := (5 : Int32)) S tl_X7_17 ⟨Nat.le_of_ble_eq_true rfl, Nat.le_of_ble_eq_true rfl⟩ hl.1 (Nat.le_of_ble_eq_true rfl) dX7_times_36 ?_
    refine k_X8_register (a0 := (F_X1_field a0 (10 : Int32) (5 : Int32))) S hK hP tl_X7_23 ⟨Nat.le_of_ble_eq_true rfl, Nat.le_of_ble_eq_true rfl⟩ hl.1 (Nat.le_of_ble_eq_true rfl) dX7_times_39 ?_
    refine lv_lstore (lv' := [(4, .long (F_X8_register τ (F_X1_field a0 (10 : Int32) (5 : Int32)))), (0, .ref (r 9)), (1, .int a0), (2, .long w2)]) hx hb dX7_times_42 hl (by decide) rfl (fun ls hl => ?_)
    exact J_c44 τ w2 (F_X8_register τ (F_X1_field a0 (10 : Int32) (5 : Int32))) H locs ls hf hP hD hS (lv_sub hl [1, 2, 3, 0] rfl)
  unfold F_X7_times at hf
  refine lv_iload_n hx hb dX7_times_0 rfl (lv_at hl 1 rfl) ?_
  refine lv_bipush (v := 21) hx hb dX7_times_1 (by decide) ?_
  refine lv_bipush (v := 10) hx hb dX7_times_3 (by decide) ?_
  refine k_X1_field (a0 := a0) (a1 := (21 : Int32)) (a2 := (10 : Int32)) S tl_X7_17 ⟨Nat.le_of_ble_eq_true rfl, Nat.le_of_ble_eq_true rfl⟩ hl.1 (Nat.le_of_ble_eq_true rfl) dX7_times_5 ?_
  refine lv_sipush (v := 216) hx hb dX7_times_8 (by decide) ?_
  refine lv_icmp_eq (tgt := 16) hx hb dX7_times_11 (by decide) (fun c_11 => ?_) (fun c_11 => ?_)
  · rw [if_pos c_11] at hf
    refine lv_aload_n hx hb dX7_times_16 rfl (lv_at hl 0 rfl) ?_
    refine lv_iload_n hx hb dX7_times_17 rfl (lv_at hl 1 rfl) ?_
    refine k_X7_left (a0 := a0) S hK hP tl_X7_52 ⟨Nat.le_of_ble_eq_true rfl, Nat.le_of_ble_eq_true rfl⟩ hl.1 (Nat.le_of_ble_eq_true rfl) dX7_times_18 ?_
    refine lv_aload_n hx hb dX7_times_21 rfl (lv_at hl 0 rfl) ?_
    refine lv_iload_n hx hb dX7_times_22 rfl (lv_at hl 1 rfl) ?_
    refine k_X7_right (a0 := a0) S hK hP tl_X7_45 ⟨Nat.le_of_ble_eq_true rfl, Nat.le_of_ble_eq_true rfl⟩ hl.1 (Nat.le_of_ble_eq_true rfl) dX7_times_23 ?_
    refine lv_lmul hx hb dX7_times_26 ?_
    refine lv_lstore_n (lv' := [(2, .long ((F_X7_left σ a0) * (F_X7_right σ a0))), (0, .ref (r 9)), (1, .int a0)]) hx hb dX7_times_27 rfl hl (by decide) rfl (fun ls hl => ?_)
    exact J_c28 σ ((F_X7_left σ a0) * (F_X7_right σ a0)) H locs ls hf hP hD hS (lv_sub hl [1, 2, 0] rfl)
  · rw [if_neg c_11] at hf
    refine lv_iconst (v := 0) hx hb dX7_times_14 (by decide) ?_
    exact hend false σ H locs 15 ls hf hP hD hS dX7_times_15
theorem k_X7_times {p : Program} {l : Launch} {e : Env} {R : Room} {s : State} {m : MethodId} {args : Array Value} {below : List Frame} {meth : Method} {c : Code} {H : Heap} {locs : List Loc} {Q : State → Prop} {cc : ByteArray} {pc : Nat} {ls : Array Slot} {rest : List Value} {own : String} {index nL : Nat} {A : Nat → Prop} {z : Cx} {r : Nat → Nat} {σ : XS} {a0 : Int32} (S : CallFix p m c cc nL s args tbG own) (hK : va_K z.1 vwCl (cxT z) s) (hA : ∀ q, s.heap.size ≤ q → A q) (hP : va_P z.1 vwCl (xW z r σ) H) (hD : va_D A (xW z r σ)) (hS : va_S A s.heap H locs) (hl : Cond.methodLink own index yX7_times ∈ tbG) (hR : 3 + 1 ≤ R.frames ∧ 8 + (6 + 11) + 69 ≤ R.locals) (hsz : ls.size = nL) (hcat : (rest.map fun v => v.category).sum ≤ 8) (hdg : decode cc pc = .ok (.invokevirtual index, 3)) (kk : ∀ (H : Heap) (locs : List Loc), va_P z.1 vwCl (xW z r (F_X7_times σ a0).2) H → va_D A (xW z r (F_X7_times σ a0).2) → va_S A s.heap H locs → W p l e R s m args below meth c H locs 0 0 Q (F0 m (pc + 3) ls (.int (zB (F_X7_times σ a0).1) :: rest))) : W p l e R s m args below meth c H locs 0 0 Q (F0 m pc ls (.int a0 :: .ref (r 9) :: rest)) :=
  km (As := [.int a0]) (ov := some (.int (zB (F_X7_times σ a0).1))) (w' := xW z r (F_X7_times σ a0).2) (q0 := 9) (ci := 6) S hK hA hP hD hS (c_X7_times l z r σ a0 H.size _ rfl) ⟨tb_cB 1 S.2.2.2.2 tc_X7_times ti_X7 hl rfl rfl (by decide +kernel) hR, S.2.2.2.2 _ tm_X7_times, S.2.2.2.2 _ te_X7_times⟩ rfl rfl rfl rfl hsz rfl hcat hdg kk

theorem dJ9_multiplyHigh_f86c9_0 : decode cJ9_multiplyHigh_f86c9 0 = .ok (.lload_n 0, 1) := by decide +kernel
theorem dJ9_multiplyHigh_f86c9_1 : decode cJ9_multiplyHigh_f86c9 1 = .ok (.bipush 32, 2) := by decide +kernel
theorem dJ9_multiplyHigh_f86c9_3 : decode cJ9_multiplyHigh_f86c9 3 = .ok (.lshr, 1) := by decide +kernel
theorem dJ9_multiplyHigh_f86c9_4 : decode cJ9_multiplyHigh_f86c9 4 = .ok (.lstore 4, 2) := by decide +kernel
theorem dJ9_multiplyHigh_f86c9_6 : decode cJ9_multiplyHigh_f86c9 6 = .ok (.lload_n 0, 1) := by decide +kernel
theorem dJ9_multiplyHigh_f86c9_7 : decode cJ9_multiplyHigh_f86c9 7 = .ok (.ldc2_w 138, 3) := by decide +kernel
theorem dJ9_multiplyHigh_f86c9_10 : decode cJ9_multiplyHigh_f86c9 10 = .ok (.land, 1) := by decide +kernel
theorem dJ9_multiplyHigh_f86c9_11 : decode cJ9_multiplyHigh_f86c9 11 = .ok (.lstore 6, 2) := by decide +kernel
theorem dJ9_multiplyHigh_f86c9_13 : decode cJ9_multiplyHigh_f86c9 13 = .ok (.lload_n 2, 1) := by decide +kernel
theorem dJ9_multiplyHigh_f86c9_14 : decode cJ9_multiplyHigh_f86c9 14 = .ok (.bipush 32, 2) := by decide +kernel
theorem dJ9_multiplyHigh_f86c9_16 : decode cJ9_multiplyHigh_f86c9 16 = .ok (.lshr, 1) := by decide +kernel
theorem dJ9_multiplyHigh_f86c9_17 : decode cJ9_multiplyHigh_f86c9 17 = .ok (.lstore 8, 2) := by decide +kernel
theorem dJ9_multiplyHigh_f86c9_19 : decode cJ9_multiplyHigh_f86c9 19 = .ok (.lload_n 2, 1) := by decide +kernel
theorem dJ9_multiplyHigh_f86c9_20 : decode cJ9_multiplyHigh_f86c9 20 = .ok (.ldc2_w 138, 3) := by decide +kernel
theorem dJ9_multiplyHigh_f86c9_23 : decode cJ9_multiplyHigh_f86c9 23 = .ok (.land, 1) := by decide +kernel
theorem dJ9_multiplyHigh_f86c9_24 : decode cJ9_multiplyHigh_f86c9 24 = .ok (.lstore 10, 2) := by decide +kernel
theorem dJ9_multiplyHigh_f86c9_26 : decode cJ9_multiplyHigh_f86c9 26 = .ok (.lload 6, 2) := by decide +kernel
theorem dJ9_multiplyHigh_f86c9_28 : decode cJ9_multiplyHigh_f86c9 28 = .ok (.lload 10, 2) := by decide +kernel
theorem dJ9_multiplyHigh_f86c9_30 : decode cJ9_multiplyHigh_f86c9 30 = .ok (.lmul, 1) := by decide +kernel
theorem dJ9_multiplyHigh_f86c9_31 : decode cJ9_multiplyHigh_f86c9 31 = .ok (.lstore 12, 2) := by decide +kernel
theorem dJ9_multiplyHigh_f86c9_33 : decode cJ9_multiplyHigh_f86c9 33 = .ok (.lload 4, 2) := by decide +kernel
theorem dJ9_multiplyHigh_f86c9_35 : decode cJ9_multiplyHigh_f86c9 35 = .ok (.lload 10, 2) := by decide +kernel
theorem dJ9_multiplyHigh_f86c9_37 : decode cJ9_multiplyHigh_f86c9 37 = .ok (.lmul, 1) := by decide +kernel
theorem dJ9_multiplyHigh_f86c9_38 : decode cJ9_multiplyHigh_f86c9 38 = .ok (.lload 12, 2) := by decide +kernel
theorem dJ9_multiplyHigh_f86c9_40 : decode cJ9_multiplyHigh_f86c9 40 = .ok (.bipush 32, 2) := by decide +kernel
theorem dJ9_multiplyHigh_f86c9_42 : decode cJ9_multiplyHigh_f86c9 42 = .ok (.lushr, 1) := by decide +kernel
theorem dJ9_multiplyHigh_f86c9_43 : decode cJ9_multiplyHigh_f86c9 43 = .ok (.ladd, 1) := by decide +kernel
theorem dJ9_multiplyHigh_f86c9_44 : decode cJ9_multiplyHigh_f86c9 44 = .ok (.lstore 14, 2) := by decide +kernel
theorem dJ9_multiplyHigh_f86c9_46 : decode cJ9_multiplyHigh_f86c9 46 = .ok (.lload 14, 2) := by decide +kernel
theorem dJ9_multiplyHigh_f86c9_48 : decode cJ9_multiplyHigh_f86c9 48 = .ok (.ldc2_w 138, 3) := by decide +kernel
theorem dJ9_multiplyHigh_f86c9_51 : decode cJ9_multiplyHigh_f86c9 51 = .ok (.land, 1) := by decide +kernel
theorem dJ9_multiplyHigh_f86c9_52 : decode cJ9_multiplyHigh_f86c9 52 = .ok (.lstore 16, 2) := by decide +kernel
theorem dJ9_multiplyHigh_f86c9_54 : decode cJ9_multiplyHigh_f86c9 54 = .ok (.lload 14, 2) := by decide +kernel
theorem dJ9_multiplyHigh_f86c9_56 : decode cJ9_multiplyHigh_f86c9 56 = .ok (.bipush 32, 2) := by decide +kernel
theorem dJ9_multiplyHigh_f86c9_58 : decode cJ9_multiplyHigh_f86c9 58 = .ok (.lshr, 1) := by decide +kernel
theorem dJ9_multiplyHigh_f86c9_59 : decode cJ9_multiplyHigh_f86c9 59 = .ok (.lstore 18, 2) := by decide +kernel
theorem dJ9_multiplyHigh_f86c9_61 : decode cJ9_multiplyHigh_f86c9 61 = .ok (.lload 16, 2) := by decide +kernel
theorem dJ9_multiplyHigh_f86c9_63 : decode cJ9_multiplyHigh_f86c9 63 = .ok (.lload 6, 2) := by decide +kernel
theorem dJ9_multiplyHigh_f86c9_65 : decode cJ9_multiplyHigh_f86c9 65 = .ok (.lload 8, 2) := by decide +kernel
theorem dJ9_multiplyHigh_f86c9_67 : decode cJ9_multiplyHigh_f86c9 67 = .ok (.lmul, 1) := by decide +kernel
theorem dJ9_multiplyHigh_f86c9_68 : decode cJ9_multiplyHigh_f86c9 68 = .ok (.ladd, 1) := by decide +kernel
theorem dJ9_multiplyHigh_f86c9_69 : decode cJ9_multiplyHigh_f86c9 69 = .ok (.lstore 16, 2) := by decide +kernel
theorem dJ9_multiplyHigh_f86c9_71 : decode cJ9_multiplyHigh_f86c9 71 = .ok (.lload 4, 2) := by decide +kernel
theorem dJ9_multiplyHigh_f86c9_73 : decode cJ9_multiplyHigh_f86c9 73 = .ok (.lload 8, 2) := by decide +kernel
theorem dJ9_multiplyHigh_f86c9_75 : decode cJ9_multiplyHigh_f86c9 75 = .ok (.lmul, 1) := by decide +kernel
theorem dJ9_multiplyHigh_f86c9_76 : decode cJ9_multiplyHigh_f86c9 76 = .ok (.lload 18, 2) := by decide +kernel
theorem dJ9_multiplyHigh_f86c9_78 : decode cJ9_multiplyHigh_f86c9 78 = .ok (.ladd, 1) := by decide +kernel
theorem dJ9_multiplyHigh_f86c9_79 : decode cJ9_multiplyHigh_f86c9 79 = .ok (.lload 16, 2) := by decide +kernel
theorem dJ9_multiplyHigh_f86c9_81 : decode cJ9_multiplyHigh_f86c9 81 = .ok (.bipush 32, 2) := by decide +kernel
theorem dJ9_multiplyHigh_f86c9_83 : decode cJ9_multiplyHigh_f86c9 83 = .ok (.lshr, 1) := by decide +kernel
theorem dJ9_multiplyHigh_f86c9_84 : decode cJ9_multiplyHigh_f86c9 84 = .ok (.ladd, 1) := by decide +kernel
theorem dJ9_multiplyHigh_f86c9_85 : decode cJ9_multiplyHigh_f86c9 85 = .ok (.lreturn, 1) := by decide +kernel
def F_J9_multiplyHigh_f86c9_c54 (a0 : Int64) (a1 : Int64) (w4 : Int64) (w6 : Int64) (w8 : Int64) (w14 : Int64) (w16 : Int64) : Int64 := (((w4 * w8) + (j_lshr w14 (32 : Int32))) + (j_lshr (w16 + (w6 * w8)) (32 : Int32)))
def F_J9_multiplyHigh_f86c9_c46 (a0 : Int64) (a1 : Int64) (w4 : Int64) (w6 : Int64) (w8 : Int64) (w14 : Int64) : Int64 := (F_J9_multiplyHigh_f86c9_c54 a0 a1 w4 w6 w8 w14 (w14 &&& (4294967295 : Int64)))
def F_J9_multiplyHigh_f86c9_c26 (a0 : Int64) (a1 : Int64) (w4 : Int64) (w6 : Int64) (w8 : Int64) (w10 : Int64) : Int64 := (F_J9_multiplyHigh_f86c9_c46 a0 a1 w4 w6 w8 ((w4 * w10) + (j_lushr (w6 * w10) (32 : Int32))))
def F_J9_multiplyHigh_f86c9_c19 (a0 : Int64) (a1 : Int64) (w4 : Int64) (w6 : Int64) (w8 : Int64) : Int64 := (F_J9_multiplyHigh_f86c9_c26 a0 a1 w4 w6 w8 (a1 &&& (4294967295 : Int64)))
def F_J9_multiplyHigh_f86c9_c13 (a0 : Int64) (a1 : Int64) (w4 : Int64) (w6 : Int64) : Int64 := (F_J9_multiplyHigh_f86c9_c19 a0 a1 w4 w6 (j_lshr a1 (32 : Int32)))
def F_J9_multiplyHigh_f86c9_c6 (a0 : Int64) (a1 : Int64) (w4 : Int64) : Int64 := (F_J9_multiplyHigh_f86c9_c13 a0 a1 w4 (a0 &&& (4294967295 : Int64)))
def F_J9_multiplyHigh_f86c9 (a0 : Int64) (a1 : Int64) : Int64 := (F_J9_multiplyHigh_f86c9_c6 a0 a1 (j_lshr a0 (32 : Int32)))
set_option maxHeartbeats 4000000 in
set_option maxRecDepth 100000 in
theorem c_J9_multiplyHigh_f86c9 (l : Launch) (a0 : Int64) (a1 : Int64) (res : Int64) (hf : F_J9_multiplyHigh_f86c9 a0 a1 = res) : Met l yJ9_multiplyHigh_f86c9 (wsC yJ9_multiplyHigh_f86c9 cJ9_multiplyHigh_f86c9 20 (some .long)) { frames := 0, cells := 0, slots := 0, locals := 0 } (fun v _ => v = ([.long a0, .long a1] : List Value).toArray) (gS (some (.long res))) 0 0 (fun _ => False) := by
  refine mk_sF_l (own := RJ9) (by decide +kernel) rfl _ (Nat.le_of_ble_eq_true rfl) (fun p e s m below meth c H locs Q ls S hl hend => ?_)
  have hx := S.1
  have hb := S.2.1
  have hown := S.2.2.2.1
  have hts := S.2.2.2.2
  have hl : lv_has ls 20 [(0, .long a0), (2, .long a1)] := hl
  have J_c54 : ∀ (w4 : Int64) (w6 : Int64) (w8 : Int64) (w14 : Int64) (w16 : Int64) (ls : Array Slot), F_J9_multiplyHigh_f86c9_c54 a0 a1 w4 w6 w8 w14 w16 = res → lv_has ls 20 [(4, .long w4), (6, .long w6), (8, .long w8), (14, .long w14), (16, .long w16)] → W p l e { frames := 0, cells := 0, slots := 0, locals := 0 } s m ([.long a0, .long a1] : List Value).toArray below meth c H locs 0 0 Q (F0 m 54 ls []) := by
    intro w4 w6 w8 w14 w16 ls hf hl
    unfold F_J9_multiplyHigh_f86c9_c54 at hf
    refine lv_lload hx hb dJ9_multiplyHigh_f86c9_54 (lv_at hl 3 rfl) ?_
    refine lv_bipush (v := 32) hx hb dJ9_multiplyHigh_f86c9_56 (by decide) ?_
    refine lv_lshr (v := (j_lshr w14 (32 : Int32))) hx hb dJ9_multiplyHigh_f86c9_58 rfl ?_
    refine lv_lstore (lv' := [(18, .long (j_lshr w14 (32 : Int32))), (4, .long w4), (6, .long w6), (8, .long w8), (14, .long w14), (16, .long w16)]) hx hb dJ9_multiplyHigh_f86c9_59 hl (by decide) rfl (fun ls hl => ?_)
    refine lv_lload hx hb dJ9_multiplyHigh_f86c9_61 (lv_at hl 5 rfl) ?_
    refine lv_lload hx hb dJ9_multiplyHigh_f86c9_63 (lv_at hl 2 rfl) ?_
    refine lv_lload hx hb dJ9_multiplyHigh_f86c9_65 (lv_at hl 3 rfl) ?_
    refine lv_lmul hx hb dJ9_multiplyHigh_f86c9_67 ?_
    refine lv_ladd hx hb dJ9_multiplyHigh_f86c9_68 ?_
    refine lv_lstore (lv' := [(16, .long (w16 + (w6 * w8))), (18, .long (j_lshr w14 (32 : Int32))), (4, .long w4), (6, .long w6), (8, .long w8), (14, .long w14)]) hx hb dJ9_multiplyHigh_f86c9_69 hl (by decide) rfl (fun ls hl => ?_)
    refine lv_lload hx hb dJ9_multiplyHigh_f86c9_71 (lv_at hl 2 rfl) ?_
    refine lv_lload hx hb dJ9_multiplyHigh_f86c9_73 (lv_at hl 4 rfl) ?_
    refine lv_lmul hx hb dJ9_multiplyHigh_f86c9_75 ?_
    refine lv_lload hx hb dJ9_multiplyHigh_f86c9_76 (lv_at hl 1 rfl) ?_
    refine lv_ladd hx hb dJ9_multiplyHigh_f86c9_78 ?_
    refine lv_lload hx hb dJ9_multiplyHigh_f86c9_79 (lv_at hl 0 rfl) ?_
    refine lv_bipush (v := 32) hx hb dJ9_multiplyHigh_f86c9_81 (by decide) ?_
    refine lv_lshr (v := (j_lshr (w16 + (w6 * w8)) (32 : Int32))) hx hb dJ9_multiplyHigh_f86c9_83 rfl ?_
    refine lv_ladd hx hb dJ9_multiplyHigh_f86c9_84 ?_
    exact hend (((w4 * w8) + (j_lshr w14 (32 : Int32))) + (j_lshr (w16 + (w6 * w8)) (32 : Int32))) 85 ls hf dJ9_multiplyHigh_f86c9_85
  have J_c46 : ∀ (w4 : Int64) (w6 : Int64) (w8 : Int64) (w14 : Int64) (ls : Array Slot), F_J9_multiplyHigh_f86c9_c46 a0 a1 w4 w6 w8 w14 = res → lv_has ls 20 [(4, .long w4), (6, .long w6), (8, .long w8), (14, .long w14)] → W p l e { frames := 0, cells := 0, slots := 0, locals := 0 } s m ([.long a0, .long a1] : List Value).toArray below meth c H locs 0 0 Q (F0 m 46 ls []) := by
    intro w4 w6 w8 w14 ls hf hl
    unfold F_J9_multiplyHigh_f86c9_c46 at hf
    refine lv_lload hx hb dJ9_multiplyHigh_f86c9_46 (lv_at hl 3 rfl) ?_
    refine lv_ldc2 (v := 4294967295) hx hb hown (hts _ tk_J9_138) dJ9_multiplyHigh_f86c9_48 ?_
    refine lv_land hx hb dJ9_multiplyHigh_f86c9_51 ?_
    refine lv_lstore (lv' := [(16, .long (w14 &&& (4294967295 : Int64))), (4, .long w4), (6, .long w6), (8, .long w8), (14, .long w14)]) hx hb dJ9_multiplyHigh_f86c9_52 hl (by decide) rfl (fun ls hl => ?_)
    exact J_c54 w4 w6 w8 w14 (w14 &&& (4294967295 : Int64)) ls hf (lv_sub hl [1, 2, 3, 4, 0] rfl)
  have J_c26 : ∀ (w4 : Int64) (w6 : Int64) (w8 : Int64) (w10 : Int64) (ls : Array Slot), F_J9_multiplyHigh_f86c9_c26 a0 a1 w4 w6 w8 w10 = res → lv_has ls 20 [(4, .long w4), (6, .long w6), (8, .long w8), (10, .long w10)] → W p l e { frames := 0, cells := 0, slots := 0, locals := 0 } s m ([.long a0, .long a1] : List Value).toArray below meth c H locs 0 0 Q (F0 m 26 ls []) := by
    intro w4 w6 w8 w10 ls hf hl
    unfold F_J9_multiplyHigh_f86c9_c26 at hf
    refine lv_lload hx hb dJ9_multiplyHigh_f86c9_26 (lv_at hl 1 rfl) ?_
    refine lv_lload hx hb dJ9_multiplyHigh_f86c9_28 (lv_at hl 3 rfl) ?_
    refine lv_lmul hx hb dJ9_multiplyHigh_f86c9_30 ?_
    refine lv_lstore (lv' := [(12, .long (w6 * w10)), (4, .long w4), (6, .long w6), (8, .long w8), (10, .long w10)]) hx hb dJ9_multiplyHigh_f86c9_31 hl (by decide) rfl (fun ls hl => ?_)
    refine lv_lload hx hb dJ9_multiplyHigh_f86c9_33 (lv_at hl 1 rfl) ?_
    refine lv_lload hx hb dJ9_multiplyHigh_f86c9_35 (lv_at hl 4 rfl) ?_
    refine lv_lmul hx hb dJ9_multiplyHigh_f86c9_37 ?_
    refine lv_lload hx hb dJ9_multiplyHigh_f86c9_38 (lv_at hl 0 rfl) ?_
    refine lv_bipush (v := 32) hx hb dJ9_multiplyHigh_f86c9_40 (by decide) ?_
    refine lv_lushr (v := (j_lushr (w6 * w10) (32 : Int32))) hx hb dJ9_multiplyHigh_f86c9_42 rfl ?_
    refine lv_ladd hx hb dJ9_multiplyHigh_f86c9_43 ?_
    refine lv_lstore (lv' := [(14, .long ((w4 * w10) + (j_lushr (w6 * w10) (32 : Int32)))), (12, .long (w6 * w10)), (4, .long w4), (6, .long w6), (8, .long w8), (10, .long w10)]) hx hb dJ9_multiplyHigh_f86c9_44 hl (by decide) rfl (fun ls hl => ?_)
    exact J_c46 w4 w6 w8 ((w4 * w10) + (j_lushr (w6 * w10) (32 : Int32))) ls hf (lv_sub hl [2, 3, 4, 0] rfl)
  have J_c19 : ∀ (w4 : Int64) (w6 : Int64) (w8 : Int64) (ls : Array Slot), F_J9_multiplyHigh_f86c9_c19 a0 a1 w4 w6 w8 = res → lv_has ls 20 [(2, .long a1), (4, .long w4), (6, .long w6), (8, .long w8)] → W p l e { frames := 0, cells := 0, slots := 0, locals := 0 } s m ([.long a0, .long a1] : List Value).toArray below meth c H locs 0 0 Q (F0 m 19 ls []) := by
    intro w4 w6 w8 ls hf hl
    unfold F_J9_multiplyHigh_f86c9_c19 at hf
    refine lv_lload_n hx hb dJ9_multiplyHigh_f86c9_19 rfl (lv_at hl 0 rfl) ?_
    refine lv_ldc2 (v := 4294967295) hx hb hown (hts _ tk_J9_138) dJ9_multiplyHigh_f86c9_20 ?_
    refine lv_land hx hb dJ9_multiplyHigh_f86c9_23 ?_
    refine lv_lstore (lv' := [(10, .long (a1 &&& (4294967295 : Int64))), (2, .long a1), (4, .long w4), (6, .long w6), (8, .long w8)]) hx hb dJ9_multiplyHigh_f86c9_24 hl (by decide) rfl (fun ls hl => ?_)
    exact J_c26 w4 w6 w8 (a1 &&& (4294967295 : Int64)) ls hf (lv_sub hl [2, 3, 4, 0] rfl)
  have J_c13 : ∀ (w4 : Int64) (w6 : Int64) (ls : Array Slot), F_J9_multiplyHigh_f86c9_c13 a0 a1 w4 w6 = res → lv_has ls 20 [(2, .long a1), (4, .long w4), (6, .long w6)] → W p l e { frames := 0, cells := 0, slots := 0, locals := 0 } s m ([.long a0, .long a1] : List Value).toArray below meth c H locs 0 0 Q (F0 m 13 ls []) := by
    intro w4 w6 ls hf hl
    unfold F_J9_multiplyHigh_f86c9_c13 at hf
    refine lv_lload_n hx hb dJ9_multiplyHigh_f86c9_13 rfl (lv_at hl 0 rfl) ?_
    refine lv_bipush (v := 32) hx hb dJ9_multiplyHigh_f86c9_14 (by decide) ?_
    refine lv_lshr (v := (j_lshr a1 (32 : Int32))) hx hb dJ9_multiplyHigh_f86c9_16 rfl ?_
    refine lv_lstore (lv' := [(8, .long (j_lshr a1 (32 : Int32))), (2, .long a1), (4, .long w4), (6, .long w6)]) hx hb dJ9_multiplyHigh_f86c9_17 hl (by decide) rfl (fun ls hl => ?_)
    exact J_c19 w4 w6 (j_lshr a1 (32 : Int32)) ls hf (lv_sub hl [1, 2, 3, 0] rfl)
  have J_c6 : ∀ (w4 : Int64) (ls : Array Slot), F_J9_multiplyHigh_f86c9_c6 a0 a1 w4 = res → lv_has ls 20 [(0, .long a0), (2, .long a1), (4, .long w4)] → W p l e { frames := 0, cells := 0, slots := 0, locals := 0 } s m ([.long a0, .long a1] : List Value).toArray below meth c H locs 0 0 Q (F0 m 6 ls []) := by
    intro w4 ls hf hl
    unfold F_J9_multiplyHigh_f86c9_c6 at hf
    refine lv_lload_n hx hb dJ9_multiplyHigh_f86c9_6 rfl (lv_at hl 0 rfl) ?_
    refine lv_ldc2 (v := 4294967295) hx hb hown (hts _ tk_J9_138) dJ9_multiplyHigh_f86c9_7 ?_
    refine lv_land hx hb dJ9_multiplyHigh_f86c9_10 ?_
    refine lv_lstore (lv' := [(6, .long (a0 &&& (4294967295 : Int64))), (0, .long a0), (2, .long a1), (4, .long w4)]) hx hb dJ9_multiplyHigh_f86c9_11 hl (by decide) rfl (fun ls hl => ?_)
    exact J_c13 w4 (a0 &&& (4294967295 : Int64)) ls hf (lv_sub hl [2, 3, 0] rfl)
  unfold F_J9_multiplyHigh_f86c9 at hf
  refine lv_lload_n hx hb dJ9_multiplyHigh_f86c9_0 rfl (lv_at hl 0 rfl) ?_
  refine lv_bipush (v := 32) hx hb dJ9_multiplyHigh_f86c9_1 (by decide) ?_
  refine lv_lshr (v := (j_lshr a0 (32 : Int32))) hx hb dJ9_multiplyHigh_f86c9_3 rfl ?_
  refine lv_lstore (lv' := [(4, .long (j_lshr a0 (32 : Int32))), (0, .long a0), (2, .long a1)]) hx hb dJ9_multiplyHigh_f86c9_4 hl (by decide) rfl (fun ls hl => ?_)
  exact J_c6 (j_lshr a0 (32 : Int32)) ls hf (lv_sub hl [1, 2, 0] rfl)
theorem k_J9_multiplyHigh_f86c9 {p : Program} {l : Launch} {e : Env} {R : Room} {s : State} {m : MethodId} {args : Array Value} {below : List Frame} {meth : Method} {c : Code} {H : Heap} {locs : List Loc} {Q : State → Prop} {cc : ByteArray} {pc : Nat} {ls : Array Slot} {rest : List Value} {own : String} {index nL : Nat} {a0 : Int64} {a1 : Int64} (S : CallFix p m c cc nL s args tbG own) (hl : Cond.methodLink own index yJ9_multiplyHigh_f86c9 ∈ tbG) (hR : 0 + 1 ≤ R.frames ∧ 8 + (20 + 11) + 0 ≤ R.locals) (hsz : ls.size = nL) (hcat : (rest.map fun v => v.category).sum ≤ 8) (hdg : decode cc pc = .ok (.invokestatic index, 3)) (kk : W p l e R s m args below meth c H locs 0 0 Q (F0 m (pc + 3) ls (.long (F_J9_multiplyHigh_f86c9 a0 a1) :: rest))) : W p l e R s m args below meth c H locs 0 0 Q (F0 m pc ls (.long a1 :: .long a0 :: rest)) :=
  ks (As := [.long a0, .long a1]) (ov := some (.long (F_J9_multiplyHigh_f86c9 a0 a1))) S (c_J9_multiplyHigh_f86c9 l a0 a1 _ rfl) ⟨tb_cB 2 S.2.2.2.2 tc_J9_multiplyHigh_f86c9 ti_J9 hl rfl rfl (by decide +kernel) hR, S.2.2.2.2 _ ts_J9_multiplyHigh_f86c9⟩ rfl hsz rfl hcat hdg kk

theorem dX7_upperTimes_0 : decode cX7_upperTimes 0 = .ok (.iload_n 1, 1) := by decide +kernel
theorem dX7_upperTimes_1 : decode cX7_upperTimes 1 = .ok (.bipush 23, 2) := by decide +kernel
theorem dX7_upperTimes_3 : decode cX7_upperTimes 3 = .ok (.invokestatic 37, 3) := by decide +kernel
theorem dX7_upperTimes_6 : decode cX7_upperTimes 6 = .ok (.istore_n 2, 1) := by decide +kernel
theorem dX7_upperTimes_7 : decode cX7_upperTimes 7 = .ok (.iload_n 1, 1) := by decide +kernel
theorem dX7_upperTimes_8 : decode cX7_upperTimes 8 = .ok (.bipush 24, 2) := by decide +kernel
theorem dX7_upperTimes_10 : decode cX7_upperTimes 10 = .ok (.iushr, 1) := by decide +kernel
theorem dX7_upperTimes_11 : decode cX7_upperTimes 11 = .ok (.sipush 155, 3) := by decide +kernel
theorem dX7_upperTimes_14 : decode cX7_upperTimes 14 = .ok (.if_icmp .ne 27, 3) := by decide +kernel
theorem dX7_upperTimes_17 : decode cX7_upperTimes 17 = .ok (.iload_n 1, 1) := by decide +kernel
theorem dX7_upperTimes_18 : decode cX7_upperTimes 18 = .ok (.bipush 21, 2) := by decide +kernel
theorem dX7_upperTimes_20 : decode cX7_upperTimes 20 = .ok (.iconst 2, 1) := by decide +kernel
theorem dX7_upperTimes_21 : decode cX7_upperTimes 21 = .ok (.invokestatic 17, 3) := by decide +kernel
theorem dX7_upperTimes_24 : decode cX7_upperTimes 24 = .ok (.iconst 2, 1) := by decide +kernel
theorem dX7_upperTimes_25 : decode cX7_upperTimes 25 = .ok (.if_icmp .ne 16, 3) := by decide +kernel
theorem dX7_upperTimes_28 : decode cX7_upperTimes 28 = .ok (.iload_n 1, 1) := by decide +kernel
theorem dX7_upperTimes_29 : decode cX7_upperTimes 29 = .ok (.bipush 10, 2) := by decide +kernel
theorem dX7_upperTimes_31 : decode cX7_upperTimes 31 = .ok (.bipush 6, 2) := by decide +kernel
theorem dX7_upperTimes_33 : decode cX7_upperTimes 33 = .ok (.invokestatic 17, 3) := by decide +kernel
theorem dX7_upperTimes_36 : decode cX7_upperTimes 36 = .ok (.bipush 31, 2) := by decide +kernel
theorem dX7_upperTimes_38 : decode cX7_upperTimes 38 = .ok (.if_icmp .eq 5, 3) := by decide +kernel
theorem dX7_upperTimes_41 : decode cX7_upperTimes 41 = .ok (.iconst 0, 1) := by decide +kernel
theorem dX7_upperTimes_42 : decode cX7_upperTimes 42 = .ok (.ireturn, 1) := by decide +kernel
theorem dX7_upperTimes_43 : decode cX7_upperTimes 43 = .ok (.aload_n 0, 1) := by decide +kernel
theorem dX7_upperTimes_44 : decode cX7_upperTimes 44 = .ok (.iload_n 1, 1) := by decide +kernel
theorem dX7_upperTimes_45 : decode cX7_upperTimes 45 = .ok (.invokevirtual 52, 3) := by decide +kernel
theorem dX7_upperTimes_48 : decode cX7_upperTimes 48 = .ok (.lstore_n 3, 1) := by decide +kernel
theorem dX7_upperTimes_49 : decode cX7_upperTimes 49 = .ok (.aload_n 0, 1) := by decide +kernel
theorem dX7_upperTimes_50 : decode cX7_upperTimes 50 = .ok (.iload_n 1, 1) := by decide +kernel
theorem dX7_upperTimes_51 : decode cX7_upperTimes 51 = .ok (.invokevirtual 45, 3) := by decide +kernel
theorem dX7_upperTimes_54 : decode cX7_upperTimes 54 = .ok (.lstore 5, 2) := by decide +kernel
theorem dX7_upperTimes_56 : decode cX7_upperTimes 56 = .ok (.lload_n 3, 1) := by decide +kernel
theorem dX7_upperTimes_57 : decode cX7_upperTimes 57 = .ok (.lload 5, 2) := by decide +kernel
theorem dX7_upperTimes_59 : decode cX7_upperTimes 59 = .ok (.invokestatic 78, 3) := by decide +kernel
theorem dX7_upperTimes_62 : decode cX7_upperTimes 62 = .ok (.lstore 7, 2) := by decide +kernel
theorem dX7_upperTimes_64 : decode cX7_upperTimes 64 = .ok (.iload_n 2, 1) := by decide +kernel
theorem dX7_upperTimes_65 : decode cX7_upperTimes 65 = .ok (.ifCond .eq 33, 3) := by decide +kernel
theorem dX7_upperTimes_68 : decode cX7_upperTimes 68 = .ok (.lload 7, 2) := by decide +kernel
theorem dX7_upperTimes_70 : decode cX7_upperTimes 70 = .ok (.lload_n 3, 1) := by decide +kernel
theorem dX7_upperTimes_71 : decode cX7_upperTimes 71 = .ok (.lconst 0, 1) := by decide +kernel
theorem dX7_upperTimes_72 : decode cX7_upperTimes 72 = .ok (.lcmp, 1) := by decide +kernel
theorem dX7_upperTimes_73 : decode cX7_upperTimes 73 = .ok (.ifCond .ge 8, 3) := by decide +kernel
theorem dX7_upperTimes_76 : decode cX7_upperTimes 76 = .ok (.lload 5, 2) := by decide +kernel
theorem dX7_upperTimes_78 : decode cX7_upperTimes 78 = .ok (.goto 4, 3) := by decide +kernel
theorem dX7_upperTimes_81 : decode cX7_upperTimes 81 = .ok (.lconst 0, 1) := by decide +kernel
theorem dX7_upperTimes_82 : decode cX7_upperTimes 82 = .ok (.lload 5, 2) := by decide +kernel
theorem dX7_upperTimes_84 : decode cX7_upperTimes 84 = .ok (.lconst 0, 1) := by decide +kernel
theorem dX7_upperTimes_85 : decode cX7_upperTimes 85 = .ok (.lcmp, 1) := by decide +kernel
theorem dX7_upperTimes_86 : decode cX7_upperTimes 86 = .ok (.ifCond .ge 7, 3) := by decide +kernel
theorem dX7_upperTimes_89 : decode cX7_upperTimes 89 = .ok (.lload_n 3, 1) := by decide +kernel
theorem dX7_upperTimes_90 : decode cX7_upperTimes 90 = .ok (.goto 4, 3) := by decide +kernel
theorem dX7_upperTimes_93 : decode cX7_upperTimes 93 = .ok (.lconst 0, 1) := by decide +kernel
theorem dX7_upperTimes_94 : decode cX7_upperTimes 94 = .ok (.ladd, 1) := by decide +kernel
theorem dX7_upperTimes_95 : decode cX7_upperTimes 95 = .ok (.ladd, 1) := by decide +kernel
theorem dX7_upperTimes_96 : decode cX7_upperTimes 96 = .ok (.lstore 7, 2) := by decide +kernel
theorem dX7_upperTimes_98 : decode cX7_upperTimes 98 = .ok (.aload_n 0, 1) := by decide +kernel
theorem dX7_upperTimes_99 : decode cX7_upperTimes 99 = .ok (.iload_n 1, 1) := by decide +kernel
theorem dX7_upperTimes_100 : decode cX7_upperTimes 100 = .ok (.lload 7, 2) := by decide +kernel
theorem dX7_upperTimes_102 : decode cX7_upperTimes 102 = .ok (.invokevirtual 61, 3) := by decide +kernel
theorem dX7_upperTimes_105 : decode cX7_upperTimes 105 = .ok (.ireturn, 1) := by decide +kernel
def F_X7_upperTimes_c98 (τ : XS) (a0 : Int32) (w7 : Int64) : Bool × XS := ((F_X7_put τ a0 w7).1, (F_X7_put τ a0 w7).2)
def F_X7_upperTimes_c94 (τ : XS) (a0 : Int32) (s0 : Int64) (s1 : Int64) (s2 : Int64) : Bool × XS := (F_X7_upperTimes_c98 τ a0 (s0 + (s1 + s2)))
def F_X7_upperTimes_c82 (τ : XS) (a0 : Int32) (w3 : Int64) (w5 : Int64) (s0 : Int64) (s1 : Int64) : Bool × XS := (if (0 : Int64) ≤ w5 then (F_X7_upperTimes_c94 τ a0 s0 s1 (0 : Int64)) else (F_X7_upperTimes_c94 τ a0 s0 s1 w3))
def F_X7_upperTimes_c64 (τ : XS) (a0 : Int32) (w2 : Bool) (w3 : Int64) (w5 : Int64) (w7 : Int64) : Bool × XS := (if w2 = true then (if (0 : Int64) ≤ w3 then (F_X7_upperTimes_c82 τ a0 w3 w5 w7 (0 : Int64)) else (F_X7_upperTimes_c82 τ a0 w3 w5 w7 w5)) else (F_X7_upperTimes_c98 τ a0 w7))
def F_X7_upperTimes_c56 (τ : XS) (a0 : Int32) (w2 : Bool) (w3 : Int64) (w5 : Int64) : Bool × XS := (F_X7_upperTimes_c64 τ a0 w2 w3 w5 (F_J9_multiplyHigh_f86c9 w3 w5))
def F_X7_upperTimes_c49 (τ : XS) (a0 : Int32) (w2 : Bool) (w3 : Int64) : Bool × XS := (F_X7_upperTimes_c56 τ a0 w2 w3 (F_X7_right τ a0))
def F_X7_upperTimes (σ : XS) (a0 : Int32) : Bool × XS := (if (j_iushr a0 (24 : Int32)) = (155 : Int32) then (if (F_X1_field a0 (21 : Int32) (2 : Int32)) = (2 : Int32) then (if (F_X1_field a0 (10 : Int32) (6 : Int32)) = (31 : Int32) then (F_X7_upperTimes_c49 σ a0 (F_X1_isOne a0 (23 : Int32)) (F_X7_left σ a0)) else (false, σ)) else (false, σ)) else (false, σ))
set_option maxHeartbeats 4000000 in
set_option maxRecDepth 100000 in
theorem c_X7_upperTimes (l : Launch) (z : Cx) (r : Nat → Nat) (σ : XS) (a0 : Int32) (sz : Nat) (res : Bool × XS) (hf : F_X7_upperTimes σ a0 = res) : Met l yX7_upperTimes (wsC yX7_upperTimes cX7_upperTimes 9 (some .boolean)) { frames := 3, cells := 0, slots := 0, locals := 69 } (mPc z (xW z r σ) sz [.ref (r 9), .int a0]) (gM z (va_A (xW z r σ) sz) (some (.int (zB res.1))) (xW z r res.2)) 0 0 (va_A (xW z r σ) sz) := by
  refine mk_m_z (own := RX7) (wf := xW z r) (by decide) rfl sz _ (Nat.le_of_ble_eq_true rfl) (fun p e s m below meth c A H locs Q ls S hK hA hP hD hS hl hend => ?_)
  have hx := S.1
  have hb := S.2.1
  have hown := S.2.2.2.1
  have hts := S.2.2.2.2
  have hl : lv_has ls 9 [(0, .ref (r 9)), (1, .int a0)] := hl
  have J_c98 : ∀ (τ : XS) (w7 : Int64) (H : Heap) (locs : List Loc) (ls : Array Slot), F_X7_upperTimes_c98 τ a0 w7 = res → va_P z.1 vwCl (xW z r τ) H → va_D A (xW z r τ) → va_S A s.heap H locs → lv_has ls 9 [(0, .ref (r 9)), (1, .int a0), (7, .long w7)] → W p l e { frames := 3, cells := 0, slots := 0, locals := 69 } s m ([.ref (r 9), .int a0] : List Value).toArray below meth c H locs 0 0 Q (F0 m 98 ls []) := by
    intro τ w7 H locs ls hf hP hD hS hl
    unfold F_X7_upperTimes_c98 at hf
    refine lv_aload_n hx hb dX7_upperTimes_98 rfl (lv_at hl 0 rfl) ?_
    refine lv_iload_n hx hb dX7_upperTimes_99 rfl (lv_at hl 1 rfl) ?_
    refine lv_lload hx hb dX7_upperTimes_100 (lv_at hl 2 rfl) ?_
    refine k_X7_put (a0 := a0) (a1 := w7) S hK hA hP hD hS tl_X7_61 ⟨Nat.le_of_ble_eq_true rfl, Nat.le_of_ble_eq_true rfl⟩ hl.1 (Nat.le_of_ble_eq_true rfl) dX7_upperTimes_102 (fun H locs hP hD hS => ?_)
    exact hend (F_X7_put τ a0 w7).1 (F_X7_put τ a0 w7).2 H locs 105 ls hf hP hD hS dX7_upperTimes_105
  have J_c94 : ∀ (τ : XS) (s0 : Int64) (s1 : Int64) (s2 : Int64) (H : Heap) (locs : List Loc) (ls : Array Slot), F_X7_upperTimes_c94 τ a0 s0 s1 s2 = res → va_P z.1 vwCl (xW z r τ) H → va_D A (xW z r τ) → va_S A s.heap H locs → lv_has ls 9 [(0, .ref (r 9)), (1, .int a0)] → W p l e { frames := 3, cells := 0, slots := 0, locals := 69 } s m ([.ref (r 9), .int a0] : List Value).toArray below meth c H locs 0 0 Q (F0 m 94 ls [.long s2, .long s1, .long s0]) := by
    intro τ s0 s1 s2 H locs ls hf hP hD hS hl
    unfold F_X7_upperTimes_c94 at hf
    refine lv_ladd hx hb dX7_upperTimes_94 ?_
    refine lv_ladd hx hb dX7_upperTimes_95 ?_
    refine lv_lstore (lv' := [(7, .long (s0 + (s1 + s2))), (0, .ref (r 9)), (1, .int a0)]) hx hb dX7_upperTimes_96 hl (by decide) rfl (fun ls hl => ?_)
    exact J_c98 τ (s0 + (s1 + s2)) H locs ls hf hP hD hS (lv_sub hl [1, 2, 0] rfl)
  have J_c82 : ∀ (τ : XS) (w3 : Int64) (w5 : Int64) (s0 : Int64) (s1 : Int64) (H : Heap) (locs : List Loc) (ls : Array Slot), F_X7_upperTimes_c82 τ a0 w3 w5 s0 s1 = res → va_P z.1 vwCl (xW z r τ) H → va_D A (xW z r τ) → va_S A s.heap H locs → lv_has ls 9 [(0, .ref (r 9)), (1, .int a0), (3, .long w3), (5, .long w5)] → W p l e { frames := 3, cells := 0, slots := 0, locals := 69 } s m ([.ref (r 9), .int a0] : List Value).toArray below meth c H locs 0 0 Q (F0 m 82 ls [.long s1, .long s0]) := by
    intro τ w3 w5 s0 s1 H locs ls hf hP hD hS hl
    unfold F_X7_upperTimes_c82 at hf
    refine lv_lload hx hb dX7_upperTimes_82 (lv_at hl 3 rfl) ?_
    refine lv_lconst (v := 0) hx hb dX7_upperTimes_84 (by decide) ?_
    refine gl_ge (tgt := 93) hx hb dX7_upperTimes_85 dX7_upperTimes_86 (by decide) (fun c_85 => ?_) (fun c_85 => ?_)
    · rw [if_pos c_85] at hf
      refine lv_lconst (v := 0) hx hb dX7_upperTimes_93 (by decide) ?_
      exact J_c94 τ s0 s1 (0 : Int64) H locs ls hf hP hD hS (lv_sub hl [0, 1] rfl)
    · rw [if_neg c_85] at hf
      refine lv_lload_n hx hb dX7_upperTimes_89 rfl (lv_at hl 2 rfl) ?_
      refine lv_goto (tgt := 94) hx hb dX7_upperTimes_90 (by decide) ?_
      exact J_c94 τ s0 s1 w3 H locs ls hf hP hD hS (lv_sub hl [0, 1] rfl)
  have J_c64 : ∀ (τ : XS) (w2 : Bool) (w3 : Int64) (w5 : Int64) (w7 : Int64) (H : Heap) (locs : List Loc) (ls : Array Slot), F_X7_upperTimes_c64 τ a0 w2 w3 w5 w7 = res → va_P z.1 vwCl (xW z r τ) H → va_D A (xW z r τ) → va_S A s.heap H locs → lv_has ls 9 [(0, .ref (r 9)), (1, .int a0), (2, .int (zB w2)), (3, .long w3), (5, .long w5), (7, .long w7)] → W p l e { frames := 3, cells := 0, slots := 0, locals := 69 } s m ([.ref (r 9), .int a0] : List Value).toArray below meth c H locs 0 0 Q (F0 m 64 ls []) := by
    intro τ w2 w3 w5 w7 H locs ls hf hP hD hS hl
    unfold F_X7_upperTimes_c64 at hf
    refine lv_iload_n hx hb dX7_upperTimes_64 rfl (lv_at hl 2 rfl) ?_
    refine gz_eq (tgt := 98) hx hb dX7_upperTimes_65 (by decide) (fun c_65 => ?_) (fun c_65 => ?_)
    · rw [if_neg c_65] at hf
      exact J_c98 τ w7 H locs ls hf hP hD hS (lv_sub hl [0, 1, 5] rfl)
    · rw [if_pos c_65] at hf
      refine lv_lload hx hb dX7_upperTimes_68 (lv_at hl 5 rfl) ?_
      refine lv_lload_n hx hb dX7_upperTimes_70 rfl (lv_at hl 3 rfl) ?_
      refine lv_lconst (v := 0) hx hb dX7_upperTimes_71 (by decide) ?_
      refine gl_ge (tgt := 81) hx hb dX7_upperTimes_72 dX7_upperTimes_73 (by decide) (fun c_72 => ?_) (fun c_72 => ?_)
      · rw [if_pos c_72] at hf
        refine lv_lconst (v := 0) hx hb dX7_upperTimes_81 (by decide) ?_
        exact J_c82 τ w3 w5 w7 (0 : Int64) H locs ls hf hP hD hS (lv_sub hl [0, 1, 3, 4] rfl)
      · rw [if_neg c_72] at hf
        refine lv_lload hx hb dX7_upperTimes_76 (lv_at hl 4 rfl) ?_
        refine lv_goto (tgt := 82) hx hb dX7_upperTimes_78 (by decide) ?_
        exact J_c82 τ w3 w5 w7 w5 H locs ls hf hP hD hS (lv_sub hl [0, 1, 3, 4] rfl)
  have J_c56 : ∀ (τ : XS) (w2 : Bool) (w3 : Int64) (w5 : Int64) (H : Heap) (locs : List Loc) (ls : Array Slot), F_X7_upperTimes_c56 τ a0 w2 w3 w5 = res → va_P z.1 vwCl (xW z r τ) H → va_D A (xW z r τ) → va_S A s.heap H locs → lv_has ls 9 [(0, .ref (r 9)), (1, .int a0), (2, .int (zB w2)), (3, .long w3), (5, .long w5)] → W p l e { frames := 3, cells := 0, slots := 0, locals := 69 } s m ([.ref (r 9), .int a0] : List Value).toArray below meth c H locs 0 0 Q (F0 m 56 ls []) := by
    intro τ w2 w3 w5 H locs ls hf hP hD hS hl
    unfold F_X7_upperTimes_c56 at hf
    refine lv_lload_n hx hb dX7_upperTimes_56 rfl (lv_at hl 3 rfl) ?_
    refine lv_lload hx hb dX7_upperTimes_57 (lv_at hl 4 rfl) ?_
    refine k_J9_multiplyHigh_f86c9 (a0 := w3) (a1 := w5) S tl_X7_78 ⟨Nat.le_of_ble_eq_true rfl, Nat.le_of_ble_eq_true rfl⟩ hl.1 (Nat.le_of_ble_eq_true rfl) dX7_upperTimes_59 ?_
    refine lv_lstore (lv' := [(7, .long (F_J9_multiplyHigh_f86c9 w3 w5)), (0, .ref (r 9)), (1, .int a0), (2, .int (zB w2)), (3, .long w3), (5, .long w5)]) hx hb dX7_upperTimes_62 hl (by decide) rfl (fun ls hl => ?_)
    exact J_c64 τ w2 w3 w5 (F_J9_multiplyHigh_f86c9 w3 w5) H locs ls hf hP hD hS (lv_sub hl [1, 2, 3, 4, 5, 0] rfl)
  have J_c49 : ∀ (τ : XS) (w2 : Bool) (w3 : Int64) (H : Heap) (locs : List Loc) (ls : Array Slot), F_X7_upperTimes_c49 τ a0 w2 w3 = res → va_P z.1 vwCl (xW z r τ) H → va_D A (xW z r τ) → va_S A s.heap H locs → lv_has ls 9 [(0, .ref (r 9)), (1, .int a0), (2, .int (zB w2)), (3, .long w3)] → W p l e { frames := 3, cells := 0, slots := 0, locals := 69 } s m ([.ref (r 9), .int a0] : List Value).toArray below meth c H locs 0 0 Q (F0 m 49 ls []) := by
    intro τ w2 w3 H locs ls hf hP hD hS hl
    unfold F_X7_upperTimes_c49 at hf
    refine lv_aload_n hx hb dX7_upperTimes_49 rfl (lv_at hl 0 rfl) ?_
    refine lv_iload_n hx hb dX7_upperTimes_50 rfl (lv_at hl 1 rfl) ?_
    refine k_X7_right (a0 := a0) S hK hP tl_X7_45 ⟨Nat.le_of_ble_eq_true rfl, Nat.le_of_ble_eq_true rfl⟩ hl.1 (Nat.le_of_ble_eq_true rfl) dX7_upperTimes_51 ?_
    refine lv_lstore (lv' := [(5, .long (F_X7_right τ a0)), (0, .ref (r 9)), (1, .int a0), (2, .int (zB w2)), (3, .long w3)]) hx hb dX7_upperTimes_54 hl (by decide) rfl (fun ls hl => ?_)
    exact J_c56 τ w2 w3 (F_X7_right τ a0) H locs ls hf hP hD hS (lv_sub hl [1, 2, 3, 4, 0] rfl)
  unfold F_X7_upperTimes at hf
  refine lv_iload_n hx hb dX7_upperTimes_0 rfl (lv_at hl 1 rfl) ?_
  refine lv_bipush (v := 23) hx hb dX7_upperTimes_1 (by decide) ?_
  refine k_X1_isOne (a0 := a0) (a1 := (23 : Int32)) S tl_X7_37 ⟨Nat.le_of_ble_eq_true rfl, Nat.le_of_ble_eq_true rfl⟩ hl.1 (Nat.le_of_ble_eq_true rfl) dX7_upperTimes_3 ?_
  refine lv_istore_n (lv' := [(2, .int (zB (F_X1_isOne a0 (23 : Int32)))), (0, .ref (r 9)), (1, .int a0)]) hx hb dX7_upperTimes_6 rfl hl (by decide) rfl (fun ls hl => ?_)
  refine lv_iload_n hx hb dX7_upperTimes_7 rfl (lv_at hl 2 rfl) ?_
  refine lv_bipush (v := 24) hx hb dX7_upperTimes_8 (by decide) ?_
  refine lv_iushr (v := (j_iushr a0 (24 : Int32))) hx hb dX7_upperTimes_10 rfl ?_
  refine lv_sipush (v := 155) hx hb dX7_upperTimes_11 (by decide) ?_
  refine lv_icmp_ne (tgt := 41) hx hb dX7_upperTimes_14 (by decide) (fun c_14 => ?_) (fun c_14 => ?_)
  · rw [if_neg c_14] at hf
    refine lv_iconst (v := 0) hx hb dX7_upperTimes_41 (by decide) ?_
    exact hend false σ H locs 42 ls hf hP hD hS dX7_upperTimes_42
  · rw [if_pos c_14] at hf
    refine lv_iload_n hx hb dX7_upperTimes_17 rfl (lv_at hl 2 rfl) ?_
    refine lv_bipush (v := 21) hx hb dX7_upperTimes_18 (by decide) ?_
    refine lv_iconst (v := 2) hx hb dX7_upperTimes_20 (by decide) ?_
    refine k_X1_field (a0 := a0) (a1 := (21 : Int32)) (a2 := (2 : Int32)) S tl_X7_17 ⟨Nat.le_of_ble_eq_true rfl, Nat.le_of_ble_eq_true rfl⟩ hl.1 (Nat.le_of_ble_eq_true rfl) dX7_upperTimes_21 ?_
    refine lv_iconst (v := 2) hx hb dX7_upperTimes_24 (by decide) ?_
    refine lv_icmp_ne (tgt := 41) hx hb dX7_upperTimes_25 (by decide) (fun c_25 => ?_) (fun c_25 => ?_)
    · rw [if_neg c_25] at hf
      refine lv_iconst (v := 0) hx hb dX7_upperTimes_41 (by decide) ?_
      exact hend false σ H locs 42 ls hf hP hD hS dX7_upperTimes_42
    · rw [if_pos c_25] at hf
      refine lv_iload_n hx hb dX7_upperTimes_28 rfl (lv_at hl 2 rfl) ?_
      refine lv_bipush (v := 10) hx hb dX7_upperTimes_29 (by decide) ?_
      refine lv_bipush (v := 6) hx hb dX7_upperTimes_31 (by decide) ?_
      refine k_X1_field (a0 := a0) (a1 := (10 : Int32)) (a2 := (6 : Int32)) S tl_X7_17 ⟨Nat.le_of_ble_eq_true rfl, Nat.le_of_ble_eq_true rfl⟩ hl.1 (Nat.le_of_ble_eq_true rfl) dX7_upperTimes_33 ?_
      refine lv_bipush (v := 31) hx hb dX7_upperTimes_36 (by decide) ?_
      refine lv_icmp_eq (tgt := 43) hx hb dX7_upperTimes_38 (by decide) (fun c_38 => ?_) (fun c_38 => ?_)
      · rw [if_pos c_38] at hf
        refine lv_aload_n hx hb dX7_upperTimes_43 rfl (lv_at hl 1 rfl) ?_
        refine lv_iload_n hx hb dX7_upperTimes_44 rfl (lv_at hl 2 rfl) ?_
        refine k_X7_left (a0 := a0) S hK hP tl_X7_52 ⟨Nat.le_of_ble_eq_true rfl, Nat.le_of_ble_eq_true rfl⟩ hl.1 (Nat.le_of_ble_eq_true rfl) dX7_upperTimes_45 ?_
        refine lv_lstore_n (lv' := [(3, .long (F_X7_left σ a0)), (2, .int (zB (F_X1_isOne a0 (23 : Int32)))), (0, .ref (r 9)), (1, .int a0)]) hx hb dX7_upperTimes_48 rfl hl (by decide) rfl (fun ls hl => ?_)
        exact J_c49 σ (F_X1_isOne a0 (23 : Int32)) (F_X7_left σ a0) H locs ls hf hP hD hS (lv_sub hl [2, 3, 1, 0] rfl)
      · rw [if_neg c_38] at hf
        refine lv_iconst (v := 0) hx hb dX7_upperTimes_41 (by decide) ?_
        exact hend false σ H locs 42 ls hf hP hD hS dX7_upperTimes_42
theorem k_X7_upperTimes {p : Program} {l : Launch} {e : Env} {R : Room} {s : State} {m : MethodId} {args : Array Value} {below : List Frame} {meth : Method} {c : Code} {H : Heap} {locs : List Loc} {Q : State → Prop} {cc : ByteArray} {pc : Nat} {ls : Array Slot} {rest : List Value} {own : String} {index nL : Nat} {A : Nat → Prop} {z : Cx} {r : Nat → Nat} {σ : XS} {a0 : Int32} (S : CallFix p m c cc nL s args tbG own) (hK : va_K z.1 vwCl (cxT z) s) (hA : ∀ q, s.heap.size ≤ q → A q) (hP : va_P z.1 vwCl (xW z r σ) H) (hD : va_D A (xW z r σ)) (hS : va_S A s.heap H locs) (hl : Cond.methodLink own index yX7_upperTimes ∈ tbG) (hR : 3 + 1 ≤ R.frames ∧ 8 + (9 + 11) + 69 ≤ R.locals) (hsz : ls.size = nL) (hcat : (rest.map fun v => v.category).sum ≤ 8) (hdg : decode cc pc = .ok (.invokevirtual index, 3)) (kk : ∀ (H : Heap) (locs : List Loc), va_P z.1 vwCl (xW z r (F_X7_upperTimes σ a0).2) H → va_D A (xW z r (F_X7_upperTimes σ a0).2) → va_S A s.heap H locs → W p l e R s m args below meth c H locs 0 0 Q (F0 m (pc + 3) ls (.int (zB (F_X7_upperTimes σ a0).1) :: rest))) : W p l e R s m args below meth c H locs 0 0 Q (F0 m pc ls (.int a0 :: .ref (r 9) :: rest)) :=
  km (As := [.int a0]) (ov := some (.int (zB (F_X7_upperTimes σ a0).1))) (w' := xW z r (F_X7_upperTimes σ a0).2) (q0 := 9) (ci := 6) S hK hA hP hD hS (c_X7_upperTimes l z r σ a0 H.size _ rfl) ⟨tb_cB 1 S.2.2.2.2 tc_X7_upperTimes ti_X7 hl rfl rfl (by decide +kernel) hR, S.2.2.2.2 _ tm_X7_upperTimes, S.2.2.2.2 _ te_X7_upperTimes⟩ rfl rfl rfl rfl hsz rfl hcat hdg kk

theorem dX6_performs_0 : decode cX6_performs 0 = .ok (.aload_n 0, 1) := by decide +kernel
theorem dX6_performs_1 : decode cX6_performs 1 = .ok (.getfield 100, 3) := by decide +kernel
theorem dX6_performs_4 : decode cX6_performs 4 = .ok (.bipush 24, 2) := by decide +kernel
theorem dX6_performs_6 : decode cX6_performs 6 = .ok (.iushr, 1) := by decide +kernel
theorem dX6_performs_7 : decode cX6_performs 7 = .ok (.bipush 31, 2) := by decide +kernel
theorem dX6_performs_9 : decode cX6_performs 9 = .ok (.iand, 1) := by decide +kernel
theorem dX6_performs_10 : decode cX6_performs 10 = .ok (.tableswitch 344 8 27 #[94, 94, 106, 118, 344, 344, 344, 344, 130, 142, 154, 192, 230, 230, 230, 230, 235, 273, 305, 310], 94) := by decide +kernel
theorem dX6_performs_104 : decode cX6_performs 104 = .ok (.aload_n 0, 1) := by decide +kernel
theorem dX6_performs_105 : decode cX6_performs 105 = .ok (.getfield 47, 3) := by decide +kernel
theorem dX6_performs_108 : decode cX6_performs 108 = .ok (.aload_n 0, 1) := by decide +kernel
theorem dX6_performs_109 : decode cX6_performs 109 = .ok (.getfield 100, 3) := by decide +kernel
theorem dX6_performs_112 : decode cX6_performs 112 = .ok (.invokevirtual 104, 3) := by decide +kernel
theorem dX6_performs_115 : decode cX6_performs 115 = .ok (.ireturn, 1) := by decide +kernel
theorem dX6_performs_116 : decode cX6_performs 116 = .ok (.aload_n 0, 1) := by decide +kernel
theorem dX6_performs_117 : decode cX6_performs 117 = .ok (.getfield 38, 3) := by decide +kernel
theorem dX6_performs_120 : decode cX6_performs 120 = .ok (.aload_n 0, 1) := by decide +kernel
theorem dX6_performs_121 : decode cX6_performs 121 = .ok (.getfield 100, 3) := by decide +kernel
theorem dX6_performs_124 : decode cX6_performs 124 = .ok (.invokevirtual 108, 3) := by decide +kernel
theorem dX6_performs_127 : decode cX6_performs 127 = .ok (.ireturn, 1) := by decide +kernel
theorem dX6_performs_128 : decode cX6_performs 128 = .ok (.aload_n 0, 1) := by decide +kernel
theorem dX6_performs_129 : decode cX6_performs 129 = .ok (.getfield 38, 3) := by decide +kernel
theorem dX6_performs_132 : decode cX6_performs 132 = .ok (.aload_n 0, 1) := by decide +kernel
theorem dX6_performs_133 : decode cX6_performs 133 = .ok (.getfield 100, 3) := by decide +kernel
theorem dX6_performs_136 : decode cX6_performs 136 = .ok (.invokevirtual 111, 3) := by decide +kernel
theorem dX6_performs_139 : decode cX6_performs 139 = .ok (.ireturn, 1) := by decide +kernel
theorem dX6_performs_140 : decode cX6_performs 140 = .ok (.aload_n 0, 1) := by decide +kernel
theorem dX6_performs_141 : decode cX6_performs 141 = .ok (.getfield 31, 3) := by decide +kernel
theorem dX6_performs_144 : decode cX6_performs 144 = .ok (.aload_n 0, 1) := by decide +kernel
theorem dX6_performs_145 : decode cX6_performs 145 = .ok (.getfield 100, 3) := by decide +kernel
theorem dX6_performs_148 : decode cX6_performs 148 = .ok (.invokevirtual 114, 3) := by decide +kernel
theorem dX6_performs_151 : decode cX6_performs 151 = .ok (.ireturn, 1) := by decide +kernel
theorem dX6_performs_152 : decode cX6_performs 152 = .ok (.aload_n 0, 1) := by decide +kernel
theorem dX6_performs_153 : decode cX6_performs 153 = .ok (.getfield 31, 3) := by decide +kernel
theorem dX6_performs_156 : decode cX6_performs 156 = .ok (.aload_n 0, 1) := by decide +kernel
theorem dX6_performs_157 : decode cX6_performs 157 = .ok (.getfield 100, 3) := by decide +kernel
theorem dX6_performs_160 : decode cX6_performs 160 = .ok (.invokevirtual 117, 3) := by decide +kernel
theorem dX6_performs_163 : decode cX6_performs 163 = .ok (.ireturn, 1) := by decide +kernel
theorem dX6_performs_164 : decode cX6_performs 164 = .ok (.aload_n 0, 1) := by decide +kernel
theorem dX6_performs_165 : decode cX6_performs 165 = .ok (.getfield 100, 3) := by decide +kernel
theorem dX6_performs_168 : decode cX6_performs 168 = .ok (.bipush 23, 2) := by decide +kernel
theorem dX6_performs_170 : decode cX6_performs 170 = .ok (.invokestatic 120, 3) := by decide +kernel
theorem dX6_performs_173 : decode cX6_performs 173 = .ok (.ifCond .eq 17, 3) := by decide +kernel
theorem dX6_performs_176 : decode cX6_performs 176 = .ok (.aload_n 0, 1) := by decide +kernel
theorem dX6_performs_177 : decode cX6_performs 177 = .ok (.getfield 31, 3) := by decide +kernel
theorem dX6_performs_180 : decode cX6_performs 180 = .ok (.aload_n 0, 1) := by decide +kernel
theorem dX6_performs_181 : decode cX6_performs 181 = .ok (.getfield 100, 3) := by decide +kernel
theorem dX6_performs_184 : decode cX6_performs 184 = .ok (.invokevirtual 126, 3) := by decide +kernel
theorem dX6_performs_187 : decode cX6_performs 187 = .ok (.goto 14, 3) := by decide +kernel
theorem dX6_performs_190 : decode cX6_performs 190 = .ok (.aload_n 0, 1) := by decide +kernel
theorem dX6_performs_191 : decode cX6_performs 191 = .ok (.getfield 31, 3) := by decide +kernel
theorem dX6_performs_194 : decode cX6_performs 194 = .ok (.aload_n 0, 1) := by decide +kernel
theorem dX6_performs_195 : decode cX6_performs 195 = .ok (.getfield 100, 3) := by decide +kernel
theorem dX6_performs_198 : decode cX6_performs 198 = .ok (.invokevirtual 129, 3) := by decide +kernel
theorem dX6_performs_201 : decode cX6_performs 201 = .ok (.ireturn, 1) := by decide +kernel
theorem dX6_performs_202 : decode cX6_performs 202 = .ok (.aload_n 0, 1) := by decide +kernel
theorem dX6_performs_203 : decode cX6_performs 203 = .ok (.getfield 100, 3) := by decide +kernel
theorem dX6_performs_206 : decode cX6_performs 206 = .ok (.bipush 23, 2) := by decide +kernel
theorem dX6_performs_208 : decode cX6_performs 208 = .ok (.invokestatic 120, 3) := by decide +kernel
theorem dX6_performs_211 : decode cX6_performs 211 = .ok (.ifCond .eq 17, 3) := by decide +kernel
theorem dX6_performs_214 : decode cX6_performs 214 = .ok (.aload_n 0, 1) := by decide +kernel
theorem dX6_performs_215 : decode cX6_performs 215 = .ok (.getfield 31, 3) := by decide +kernel
theorem dX6_performs_218 : decode cX6_performs 218 = .ok (.aload_n 0, 1) := by decide +kernel
theorem dX6_performs_219 : decode cX6_performs 219 = .ok (.getfield 100, 3) := by decide +kernel
theorem dX6_performs_222 : decode cX6_performs 222 = .ok (.invokevirtual 132, 3) := by decide +kernel
theorem dX6_performs_225 : decode cX6_performs 225 = .ok (.goto 14, 3) := by decide +kernel
theorem dX6_performs_228 : decode cX6_performs 228 = .ok (.aload_n 0, 1) := by decide +kernel
theorem dX6_performs_229 : decode cX6_performs 229 = .ok (.getfield 31, 3) := by decide +kernel
theorem dX6_performs_232 : decode cX6_performs 232 = .ok (.aload_n 0, 1) := by decide +kernel
theorem dX6_performs_233 : decode cX6_performs 233 = .ok (.getfield 100, 3) := by decide +kernel
theorem dX6_performs_236 : decode cX6_performs 236 = .ok (.invokevirtual 135, 3) := by decide +kernel
theorem dX6_performs_239 : decode cX6_performs 239 = .ok (.ireturn, 1) := by decide +kernel
theorem dX6_performs_240 : decode cX6_performs 240 = .ok (.aload_n 0, 1) := by decide +kernel
theorem dX6_performs_241 : decode cX6_performs 241 = .ok (.invokevirtual 138, 3) := by decide +kernel
theorem dX6_performs_244 : decode cX6_performs 244 = .ok (.ireturn, 1) := by decide +kernel
theorem dX6_performs_245 : decode cX6_performs 245 = .ok (.aload_n 0, 1) := by decide +kernel
theorem dX6_performs_246 : decode cX6_performs 246 = .ok (.getfield 100, 3) := by decide +kernel
theorem dX6_performs_249 : decode cX6_performs 249 = .ok (.bipush 29, 2) := by decide +kernel
theorem dX6_performs_251 : decode cX6_performs 251 = .ok (.invokestatic 120, 3) := by decide +kernel
theorem dX6_performs_254 : decode cX6_performs 254 = .ok (.ifCond .eq 17, 3) := by decide +kernel
theorem dX6_performs_257 : decode cX6_performs 257 = .ok (.aload_n 0, 1) := by decide +kernel
theorem dX6_performs_258 : decode cX6_performs 258 = .ok (.getfield 47, 3) := by decide +kernel
theorem dX6_performs_261 : decode cX6_performs 261 = .ok (.aload_n 0, 1) := by decide +kernel
theorem dX6_performs_262 : decode cX6_performs 262 = .ok (.getfield 100, 3) := by decide +kernel
theorem dX6_performs_265 : decode cX6_performs 265 = .ok (.invokevirtual 141, 3) := by decide +kernel
theorem dX6_performs_268 : decode cX6_performs 268 = .ok (.goto 14, 3) := by decide +kernel
theorem dX6_performs_271 : decode cX6_performs 271 = .ok (.aload_n 0, 1) := by decide +kernel
theorem dX6_performs_272 : decode cX6_performs 272 = .ok (.getfield 47, 3) := by decide +kernel
theorem dX6_performs_275 : decode cX6_performs 275 = .ok (.aload_n 0, 1) := by decide +kernel
theorem dX6_performs_276 : decode cX6_performs 276 = .ok (.getfield 100, 3) := by decide +kernel
theorem dX6_performs_279 : decode cX6_performs 279 = .ok (.invokevirtual 144, 3) := by decide +kernel
theorem dX6_performs_282 : decode cX6_performs 282 = .ok (.ireturn, 1) := by decide +kernel
theorem dX6_performs_283 : decode cX6_performs 283 = .ok (.aload_n 0, 1) := by decide +kernel
theorem dX6_performs_284 : decode cX6_performs 284 = .ok (.getfield 100, 3) := by decide +kernel
theorem dX6_performs_287 : decode cX6_performs 287 = .ok (.bipush 29, 2) := by decide +kernel
theorem dX6_performs_289 : decode cX6_performs 289 = .ok (.invokestatic 120, 3) := by decide +kernel
theorem dX6_performs_292 : decode cX6_performs 292 = .ok (.ifCond .eq 21, 3) := by decide +kernel
theorem dX6_performs_295 : decode cX6_performs 295 = .ok (.aload_n 0, 1) := by decide +kernel
theorem dX6_performs_296 : decode cX6_performs 296 = .ok (.getfield 47, 3) := by decide +kernel
theorem dX6_performs_299 : decode cX6_performs 299 = .ok (.aload_n 0, 1) := by decide +kernel
theorem dX6_performs_300 : decode cX6_performs 300 = .ok (.getfield 100, 3) := by decide +kernel
theorem dX6_performs_303 : decode cX6_performs 303 = .ok (.invokevirtual 141, 3) := by decide +kernel
theorem dX6_performs_306 : decode cX6_performs 306 = .ok (.ifCond .eq 7, 3) := by decide +kernel
theorem dX6_performs_309 : decode cX6_performs 309 = .ok (.iconst 1, 1) := by decide +kernel
theorem dX6_performs_310 : decode cX6_performs 310 = .ok (.goto 4, 3) := by decide +kernel
theorem dX6_performs_313 : decode cX6_performs 313 = .ok (.iconst 0, 1) := by decide +kernel
theorem dX6_performs_314 : decode cX6_performs 314 = .ok (.ireturn, 1) := by decide +kernel
theorem dX6_performs_315 : decode cX6_performs 315 = .ok (.aload_n 0, 1) := by decide +kernel
theorem dX6_performs_316 : decode cX6_performs 316 = .ok (.invokevirtual 147, 3) := by decide +kernel
theorem dX6_performs_319 : decode cX6_performs 319 = .ok (.ireturn, 1) := by decide +kernel
theorem dX6_performs_320 : decode cX6_performs 320 = .ok (.aload_n 0, 1) := by decide +kernel
theorem dX6_performs_321 : decode cX6_performs 321 = .ok (.getfield 38, 3) := by decide +kernel
theorem dX6_performs_324 : decode cX6_performs 324 = .ok (.aload_n 0, 1) := by decide +kernel
theorem dX6_performs_325 : decode cX6_performs 325 = .ok (.getfield 100, 3) := by decide +kernel
theorem dX6_performs_328 : decode cX6_performs 328 = .ok (.invokevirtual 150, 3) := by decide +kernel
theorem dX6_performs_331 : decode cX6_performs 331 = .ok (.ifCond .ne 17, 3) := by decide +kernel
theorem dX6_performs_334 : decode cX6_performs 334 = .ok (.aload_n 0, 1) := by decide +kernel
theorem dX6_performs_335 : decode cX6_performs 335 = .ok (.getfield 38, 3) := by decide +kernel
theorem dX6_performs_338 : decode cX6_performs 338 = .ok (.aload_n 0, 1) := by decide +kernel
theorem dX6_performs_339 : decode cX6_performs 339 = .ok (.getfield 100, 3) := by decide +kernel
theorem dX6_performs_342 : decode cX6_performs 342 = .ok (.invokevirtual 153, 3) := by decide +kernel
theorem dX6_performs_345 : decode cX6_performs 345 = .ok (.ifCond .eq 7, 3) := by decide +kernel
theorem dX6_performs_348 : decode cX6_performs 348 = .ok (.iconst 1, 1) := by decide +kernel
theorem dX6_performs_349 : decode cX6_performs 349 = .ok (.goto 4, 3) := by decide +kernel
theorem dX6_performs_352 : decode cX6_performs 352 = .ok (.iconst 0, 1) := by decide +kernel
theorem dX6_performs_353 : decode cX6_performs 353 = .ok (.ireturn, 1) := by decide +kernel
theorem dX6_performs_354 : decode cX6_performs 354 = .ok (.iconst 0, 1) := by decide +kernel
theorem dX6_performs_355 : decode cX6_performs 355 = .ok (.ireturn, 1) := by decide +kernel
def F_X6_performs (σ : XS)  : Option (Bool × XS) := (if ((j_iushr (xO σ) (24 : Int32)) &&& (31 : Int32)) = 8 then ((F_X0_pair σ (xO σ)).bind fun v1 => some ((v1.1, v1.2))) else (if ((j_iushr (xO σ) (24 : Int32)) &&& (31 : Int32)) = 9 then ((F_X0_pair σ (xO σ)).bind fun v2 => some ((v2.1, v2.2))) else (if ((j_iushr (xO σ) (24 : Int32)) &&& (31 : Int32)) = 10 then some (((F_X7_logic σ (xO σ)).1, (F_X7_logic σ (xO σ)).2)) else (if ((j_iushr (xO σ) (24 : Int32)) &&& (31 : Int32)) = 11 then some (((F_X7_sum σ (xO σ)).1, (F_X7_sum σ (xO σ)).2)) else (if ((j_iushr (xO σ) (24 : Int32)) &&& (31 : Int32)) = 16 then some (((F_X5_place σ (xO σ)).1, (F_X5_place σ (xO σ)).2)) else (if ((j_iushr (xO σ) (24 : Int32)) &&& (31 : Int32)) = 17 then some (((F_X5_number σ (xO σ)).1, (F_X5_number σ (xO σ)).2)) else (if ((j_iushr (xO σ) (24 : Int32)) &&& (31 : Int32)) = 18 then (if (F_X1_isOne (xO σ) (23 : Int32)) = true then some (((F_X5_move σ (xO σ)).1, (F_X5_move σ (xO σ)).2)) else some (((F_X5_masks σ (xO σ)).1, (F_X5_masks σ (xO σ)).2))) else (if ((j_iushr (xO σ) (24 : Int32)) &&& (31 : Int32)) = 19 then (if (F_X1_isOne (xO σ) (23 : Int32)) = true then some (((F_X5_twice σ (xO σ)).1, (F_X5_twice σ (xO σ)).2)) else some (((F_X5_bits σ (xO σ)).1, (F_X5_bits σ (xO σ)).2))) else (if ((j_iushr (xO σ) (24 : Int32)) &&& (31 : Int32)) = 20 then some (((F_X6_performsBranch σ).1, (F_X6_performsBranch σ).2)) else (if ((j_iushr (xO σ) (24 : Int32)) &&& (31 : Int32)) = 21 then some (((F_X6_performsBranch σ).1, (F_X6_performsBranch σ).2)) else (if ((j_iushr (xO σ) (24 : Int32)) &&& (31 : Int32)) = 22 then some (((F_X6_performsBranch σ).1, (F_X6_performsBranch σ).2)) else (if ((j_iushr (xO σ) (24 : Int32)) &&& (31 : Int32)) = 23 then some (((F_X6_performsBranch σ).1, (F_X6_performsBranch σ).2)) else (if ((j_iushr (xO σ) (24 : Int32)) &&& (31 : Int32)) = 24 then (if (F_X1_isOne (xO σ) (29 : Int32)) = true then ((F_X0_single σ (xO σ)).bind fun v4 => some ((v4.1, v4.2))) else ((F_X0_near σ (xO σ)).bind fun v3 => some ((v3.1, v3.2)))) else (if ((j_iushr (xO σ) (24 : Int32)) &&& (31 : Int32)) = 25 then (if (F_X1_isOne (xO σ) (29 : Int32)) = true then ((F_X0_single σ (xO σ)).bind fun v5 => (if v5.1 = true then some ((true, v5.2)) else some ((false, v5.2)))) else some ((false, σ))) else (if ((j_iushr (xO σ) (24 : Int32)) &&& (31 : Int32)) = 26 then some (((F_X6_performsRegisters σ).1, (F_X6_performsRegisters σ).2)) else (if ((j_iushr (xO σ) (24 : Int32)) &&& (31 : Int32)) = 27 then (if (F_X7_times σ (xO σ)).1 = true then some ((true, (F_X7_times σ (xO σ)).2)) else (if (F_X7_upperTimes (F_X7_times σ (xO σ)).2 (xO (F_X7_times σ (xO σ)).2)).1 = true then some ((true, (F_X7_upperTimes (F_X7_times σ (xO σ)).2 (xO (F_X7_times σ (xO σ)).2)).2)) else some ((false, (F_X7_upperTimes (F_X7_times σ (xO σ)).2 (xO (F_X7_times σ (xO σ)).2)).2)))) else some ((false, σ))))))))))))))))))
set_option maxHeartbeats 4000000 in
set_option maxRecDepth 100000 in
theorem c_X6_performs (l : Launch) (z : Cx) (r : Nat → Nat) (σ : XS) (sz : Nat) (res : Bool × XS) (hf : F_X6_performs σ = some res) : Met l yX6_performs (wsC yX6_performs cX6_performs 1 (some .boolean)) { frames := 6, cells := 0, slots := 0, locals := 171 } (mPc z (xW z r σ) sz [.ref (r 6)]) (gM z (va_A (xW z r σ) sz) (some (.int (zB res.1))) (xW z r res.2)) 0 0 (va_A (xW z r σ) sz) := by
  refine mk_m_z (own := RX6) (wf := xW z r) (by decide) rfl sz _ (Nat.le_of_ble_eq_true rfl) (fun p e s m below meth c A H locs Q ls S hK hA hP hD hS hl hend => ?_)
  have hx := S.1
  have hb := S.2.1
  have hown := S.2.2.2.1
  have hts := S.2.2.2.2
  have hl : lv_has ls 1 [(0, .ref (r 6))] := hl
  unfold F_X6_performs at hf
  refine lv_aload_n hx hb dX6_performs_0 rfl (lv_at hl 0 rfl) ?_
  refine fg_X6_word S hK hP tf_X6_100 dX6_performs_1 ?_
  refine lv_bipush (v := 24) hx hb dX6_performs_4 (by decide) ?_
  refine lv_iushr (v := (j_iushr (xO σ) (24 : Int32))) hx hb dX6_performs_6 rfl ?_
  refine lv_bipush (v := 31) hx hb dX6_performs_7 (by decide) ?_
  refine lv_iand hx hb dX6_performs_9 ?_
  by_cases c_10_8 : ((j_iushr (xO σ) (24 : Int32)) &&& (31 : Int32)) = 8
  · rw [if_pos c_10_8] at hf
    refine gt_in (k := 8) (tgt := 104) hx hb dX6_performs_10 c_10_8 (by decide) (by decide) rfl (by decide) ?_
    refine lv_aload_n hx hb dX6_performs_104 rfl (lv_at hl 0 rfl) ?_
    refine fg_X6_accesses S hK hP tf_X6_47 dX6_performs_105 ?_
    refine lv_aload_n hx hb dX6_performs_108 rfl (lv_at hl 0 rfl) ?_
    refine fg_X6_word S hK hP tf_X6_100 dX6_performs_109 ?_
    obtain ⟨v1, e_v1, hf⟩ := Option.bind_eq_some_iff.mp hf
    refine k_X0_pair (a0 := (xO σ)) (res := v1) (hres := e_v1) S hK hA hP hD hS tl_X6_104 ⟨Nat.le_of_ble_eq_true rfl, Nat.le_of_ble_eq_true rfl⟩ hl.1 (Nat.le_of_ble_eq_true rfl) dX6_performs_112 (fun H locs hP hD hS => ?_)
    exact hend v1.1 v1.2 H locs 115 ls (Option.some.inj hf) hP hD hS dX6_performs_115
  rw [if_neg c_10_8] at hf
  by_cases c_10_9 : ((j_iushr (xO σ) (24 : Int32)) &&& (31 : Int32)) = 9
  · rw [if_pos c_10_9] at hf
    refine gt_in (k := 9) (tgt := 104) hx hb dX6_performs_10 c_10_9 (by decide) (by decide) rfl (by decide) ?_
    refine lv_aload_n hx hb dX6_performs_104 rfl (lv_at hl 0 rfl) ?_
    refine fg_X6_accesses S hK hP tf_X6_47 dX6_performs_105 ?_
    refine lv_aload_n hx hb dX6_performs_108 rfl (lv_at hl 0 rfl) ?_
    refine fg_X6_word S hK hP tf_X6_100 dX6_performs_109 ?_
    obtain ⟨v2, e_v2, hf⟩ := Option.bind_eq_some_iff.mp hf
    refine k_X0_pair (a0 := (xO σ)) (res := v2) (hres := e_v2) S hK hA hP hD hS tl_X6_104 ⟨Nat.le_of_ble_eq_true rfl, Nat.le_of_ble_eq_true rfl⟩ hl.1 (Nat.le_of_ble_eq_true rfl) dX6_performs_112 (fun H locs hP hD hS => ?_)
    exact hend v2.1 v2.2 H locs 115 ls (Option.some.inj hf) hP hD hS dX6_performs_115
  rw [if_neg c_10_9] at hf
  by_cases c_10_10 : ((j_iushr (xO σ) (24 : Int32)) &&& (31 : Int32)) = 10
  · rw [if_pos c_10_10] at hf
    refine gt_in (k := 10) (tgt := 116) hx hb dX6_performs_10 c_10_10 (by decide) (by decide) rfl (by decide) ?_
    refine lv_aload_n hx hb dX6_performs_116 rfl (lv_at hl 0 rfl) ?_
    refine fg_X6_registers S hK hP tf_X6_38 dX6_performs_117 ?_
    refine lv_aload_n hx hb dX6_performs_120 rfl (lv_at hl 0 rfl) ?_
    refine fg_X6_word S hK hP tf_X6_100 dX6_performs_121 ?_
    refine k_X7_logic (a0 := (xO σ)) S hK hA hP hD hS tl_X6_108 ⟨Nat.le_of_ble_eq_true rfl, Nat.le_of_ble_eq_true rfl⟩ hl.1 (Nat.le_of_ble_eq_true rfl) dX6_performs_124 (fun H locs hP hD hS => ?_)
    exact hend (F_X7_logic σ (xO σ)).1 (F_X7_logic σ (xO σ)).2 H locs 127 ls (Option.some.inj hf) hP hD hS dX6_performs_127
  rw [if_neg c_10_10] at hf
  by_cases c_10_11 : ((j_iushr (xO σ) (24 : Int32)) &&& (31 : Int32)) = 11
  · rw [if_pos c_10_11] at hf
    refine gt_in (k := 11) (tgt := 128) hx hb dX6_performs_10 c_10_11 (by decide) (by decide) rfl (by decide) ?_
    refine lv_aload_n hx hb dX6_performs_128 rfl (lv_at hl 0 rfl) ?_
    refine fg_X6_registers S hK hP tf_X6_38 dX6_performs_129 ?_
    refine lv_aload_n hx hb dX6_performs_132 rfl (lv_at hl 0 rfl) ?_
    refine fg_X6_word S hK hP tf_X6_100 dX6_performs_133 ?_
    refine k_X7_sum (a0 := (xO σ)) S hK hA hP hD hS tl_X6_111 ⟨Nat.le_of_ble_eq_true rfl, Nat.le_of_ble_eq_true rfl⟩ hl.1 (Nat.le_of_ble_eq_true rfl) dX6_performs_136 (fun H locs hP hD hS => ?_)
    exact hend (F_X7_sum σ (xO σ)).1 (F_X7_sum σ (xO σ)).2 H locs 139 ls (Option.some.inj hf) hP hD hS dX6_performs_139
  rw [if_neg c_10_11] at hf
  by_cases c_10_16 : ((j_iushr (xO σ) (24 : Int32)) &&& (31 : Int32)) = 16
  · rw [if_pos c_10_16] at hf
    refine gt_in (k := 16) (tgt := 140) hx hb dX6_performs_10 c_10_16 (by decide) (by decide) rfl (by decide) ?_
    refine lv_aload_n hx hb dX6_performs_140 rfl (lv_at hl 0 rfl) ?_
    refine fg_X6_numbers S hK hP tf_X6_31 dX6_performs_141 ?_
    refine lv_aload_n hx hb dX6_performs_144 rfl (lv_at hl 0 rfl) ?_
    refine fg_X6_word S hK hP tf_X6_100 dX6_performs_145 ?_
    refine k_X5_place (a0 := (xO σ)) S hK hA hP hD hS tl_X6_114 ⟨Nat.le_of_ble_eq_true rfl, Nat.le_of_ble_eq_true rfl⟩ hl.1 (Nat.le_of_ble_eq_true rfl) dX6_performs_148 (fun H locs hP hD hS => ?_)
    exact hend (F_X5_place σ (xO σ)).1 (F_X5_place σ (xO σ)).2 H locs 151 ls (Option.some.inj hf) hP hD hS dX6_performs_151
  rw [if_neg c_10_16] at hf
  by_cases c_10_17 : ((j_iushr (xO σ) (24 : Int32)) &&& (31 : Int32)) = 17
  · rw [if_pos c_10_17] at hf
    refine gt_in (k := 17) (tgt := 152) hx hb dX6_performs_10 c_10_17 (by decide) (by decide) rfl (by decide) ?_
    refine lv_aload_n hx hb dX6_performs_152 rfl (lv_at hl 0 rfl) ?_
    refine fg_X6_numbers S hK hP tf_X6_31 dX6_performs_153 ?_
    refine lv_aload_n hx hb dX6_performs_156 rfl (lv_at hl 0 rfl) ?_
    refine fg_X6_word S hK hP tf_X6_100 dX6_performs_157 ?_
    refine k_X5_number (a0 := (xO σ)) S hK hA hP hD hS tl_X6_117 ⟨Nat.le_of_ble_eq_true rfl, Nat.le_of_ble_eq_true rfl⟩ hl.1 (Nat.le_of_ble_eq_true rfl) dX6_performs_160 (fun H locs hP hD hS => ?_)
    exact hend (F_X5_number σ (xO σ)).1 (F_X5_number σ (xO σ)).2 H locs 163 ls (Option.some.inj hf) hP hD hS dX6_performs_163
  rw [if_neg c_10_17] at hf
  by_cases c_10_18 : ((j_iushr (xO σ) (24 : Int32)) &&& (31 : Int32)) = 18
  · rw [if_pos c_10_18] at hf
    refine gt_in (k := 18) (tgt := 164) hx hb dX6_performs_10 c_10_18 (by decide) (by decide) rfl (by decide) ?_
    refine lv_aload_n hx hb dX6_performs_164 rfl (lv_at hl 0 rfl) ?_
    refine fg_X6_word S hK hP tf_X6_100 dX6_performs_165 ?_
    refine lv_bipush (v := 23) hx hb dX6_performs_168 (by decide) ?_
    refine k_X1_isOne (a0 := (xO σ)) (a1 := (23 : Int32)) S tl_X6_120 ⟨Nat.le_of_ble_eq_true rfl, Nat.le_of_ble_eq_true rfl⟩ hl.1 (Nat.le_of_ble_eq_true rfl) dX6_performs_170 ?_
    refine gz_eq (tgt := 190) hx hb dX6_performs_173 (by decide) (fun c_173 => ?_) (fun c_173 => ?_)
    · rw [if_neg c_173] at hf
      refine lv_aload_n hx hb dX6_performs_190 rfl (lv_at hl 0 rfl) ?_
      refine fg_X6_numbers S hK hP tf_X6_31 dX6_performs_191 ?_
      refine lv_aload_n hx hb dX6_performs_194 rfl (lv_at hl 0 rfl) ?_
      refine fg_X6_word S hK hP tf_X6_100 dX6_performs_195 ?_
      refine k_X5_masks (a0 := (xO σ)) S hK hA hP hD hS tl_X6_129 ⟨Nat.le_of_ble_eq_true rfl, Nat.le_of_ble_eq_true rfl⟩ hl.1 (Nat.le_of_ble_eq_true rfl) dX6_performs_198 (fun H locs hP hD hS => ?_)
      exact hend (F_X5_masks σ (xO σ)).1 (F_X5_masks σ (xO σ)).2 H locs 201 ls (Option.some.inj hf) hP hD hS dX6_performs_201
    · rw [if_pos c_173] at hf
      refine lv_aload_n hx hb dX6_performs_176 rfl (lv_at hl 0 rfl) ?_
      refine fg_X6_numbers S hK hP tf_X6_31 dX6_performs_177 ?_
      refine lv_aload_n hx hb dX6_performs_180 rfl (lv_at hl 0 rfl) ?_
      refine fg_X6_word S hK hP tf_X6_100 dX6_performs_181 ?_
      refine k_X5_move (a0 := (xO σ)) S hK hA hP hD hS tl_X6_126 ⟨Nat.le_of_ble_eq_true rfl, Nat.le_of_ble_eq_true rfl⟩ hl.1 (Nat.le_of_ble_eq_true rfl) dX6_performs_184 (fun H locs hP hD hS => ?_)
      refine lv_goto (tgt := 201) hx hb dX6_performs_187 (by decide) ?_
      exact hend (F_X5_move σ (xO σ)).1 (F_X5_move σ (xO σ)).2 H locs 201 ls (Option.some.inj hf) hP hD hS dX6_performs_201
  rw [if_neg c_10_18] at hf
  by_cases c_10_19 : ((j_iushr (xO σ) (24 : Int32)) &&& (31 : Int32)) = 19
  · rw [if_pos c_10_19] at hf
    refine gt_in (k := 19) (tgt := 202) hx hb dX6_performs_10 c_10_19 (by decide) (by decide) rfl (by decide) ?_
    refine lv_aload_n hx hb dX6_performs_202 rfl (lv_at hl 0 rfl) ?_
    refine fg_X6_word S hK hP tf_X6_100 dX6_performs_203 ?_
    refine lv_bipush (v := 23) hx hb dX6_performs_206 (by decide) ?_
    refine k_X1_isOne (a0 := (xO σ)) (a1 := (23 : Int32)) S tl_X6_120 ⟨Nat.le_of_ble_eq_true rfl, Nat.le_of_ble_eq_true rfl⟩ hl.1 (Nat.le_of_ble_eq_true rfl) dX6_performs_208 ?_
    refine gz_eq (tgt := 228) hx hb dX6_performs_211 (by decide) (fun c_211 => ?_) (fun c_211 => ?_)
    · rw [if_neg c_211] at hf
      refine lv_aload_n hx hb dX6_performs_228 rfl (lv_at hl 0 rfl) ?_
      refine fg_X6_numbers S hK hP tf_X6_31 dX6_performs_229 ?_
      refine lv_aload_n hx hb dX6_performs_232 rfl (lv_at hl 0 rfl) ?_
      refine fg_X6_word S hK hP tf_X6_100 dX6_performs_233 ?_
      refine k_X5_bits (a0 := (xO σ)) S hK hA hP hD hS tl_X6_135 ⟨Nat.le_of_ble_eq_true rfl, Nat.le_of_ble_eq_true rfl⟩ hl.1 (Nat.le_of_ble_eq_true rfl) dX6_performs_236 (fun H locs hP hD hS => ?_)
      exact hend (F_X5_bits σ (xO σ)).1 (F_X5_bits σ (xO σ)).2 H locs 239 ls (Option.some.inj hf) hP hD hS dX6_performs_239
    · rw [if_pos c_211] at hf
      refine lv_aload_n hx hb dX6_performs_214 rfl (lv_at hl 0 rfl) ?_
      refine fg_X6_numbers S hK hP tf_X6_31 dX6_performs_215 ?_
      refine lv_aload_n hx hb dX6_performs_218 rfl (lv_at hl 0 rfl) ?_
      refine fg_X6_word S hK hP tf_X6_100 dX6_performs_219 ?_
      refine k_X5_twice (a0 := (xO σ)) S hK hA hP hD hS tl_X6_132 ⟨Nat.le_of_ble_eq_true rfl, Nat.le_of_ble_eq_true rfl⟩ hl.1 (Nat.le_of_ble_eq_true rfl) dX6_performs_222 (fun H locs hP hD hS => ?_)
      refine lv_goto (tgt := 239) hx hb dX6_performs_225 (by decide) ?_
      exact hend (F_X5_twice σ (xO σ)).1 (F_X5_twice σ (xO σ)).2 H locs 239 ls (Option.some.inj hf) hP hD hS dX6_performs_239
  rw [if_neg c_10_19] at hf
  by_cases c_10_20 : ((j_iushr (xO σ) (24 : Int32)) &&& (31 : Int32)) = 20
  · rw [if_pos c_10_20] at hf
    refine gt_in (k := 20) (tgt := 240) hx hb dX6_performs_10 c_10_20 (by decide) (by decide) rfl (by decide) ?_
    refine lv_aload_n hx hb dX6_performs_240 rfl (lv_at hl 0 rfl) ?_
    refine k_X6_performsBranch S hK hA hP hD hS tl_X6_138 ⟨Nat.le_of_ble_eq_true rfl, Nat.le_of_ble_eq_true rfl⟩ hl.1 (Nat.le_of_ble_eq_true rfl) dX6_performs_241 (fun H locs hP hD hS => ?_)
    exact hend (F_X6_performsBranch σ).1 (F_X6_performsBranch σ).2 H locs 244 ls (Option.some.inj hf) hP hD hS dX6_performs_244
  rw [if_neg c_10_20] at hf
  by_cases c_10_21 : ((j_iushr (xO σ) (24 : Int32)) &&& (31 : Int32)) = 21
  · rw [if_pos c_10_21] at hf
    refine gt_in (k := 21) (tgt := 240) hx hb dX6_performs_10 c_10_21 (by decide) (by decide) rfl (by decide) ?_
    refine lv_aload_n hx hb dX6_performs_240 rfl (lv_at hl 0 rfl) ?_
    refine k_X6_performsBranch S hK hA hP hD hS tl_X6_138 ⟨Nat.le_of_ble_eq_true rfl, Nat.le_of_ble_eq_true rfl⟩ hl.1 (Nat.le_of_ble_eq_true rfl) dX6_performs_241 (fun H locs hP hD hS => ?_)
    exact hend (F_X6_performsBranch σ).1 (F_X6_performsBranch σ).2 H locs 244 ls (Option.some.inj hf) hP hD hS dX6_performs_244
  rw [if_neg c_10_21] at hf
  by_cases c_10_22 : ((j_iushr (xO σ) (24 : Int32)) &&& (31 : Int32)) = 22
  · rw [if_pos c_10_22] at hf
    refine gt_in (k := 22) (tgt := 240) hx hb dX6_performs_10 c_10_22 (by decide) (by decide) rfl (by decide) ?_
    refine lv_aload_n hx hb dX6_performs_240 rfl (lv_at hl 0 rfl) ?_
    refine k_X6_performsBranch S hK hA hP hD hS tl_X6_138 ⟨Nat.le_of_ble_eq_true rfl, Nat.le_of_ble_eq_true rfl⟩ hl.1 (Nat.le_of_ble_eq_true rfl) dX6_performs_241 (fun H locs hP hD hS => ?_)
    exact hend (F_X6_performsBranch σ).1 (F_X6_performsBranch σ).2 H locs 244 ls (Option.some.inj hf) hP hD hS dX6_performs_244
  rw [if_neg c_10_22] at hf
  by_cases c_10_23 : ((j_iushr (xO σ) (24 : Int32)) &&& (31 : Int32)) = 23
  · rw [if_pos c_10_23] at hf
    refine gt_in (k := 23) (tgt := 240) hx hb dX6_performs_10 c_10_23 (by decide) (by decide) rfl (by decide) ?_
    refine lv_aload_n hx hb dX6_performs_240 rfl (lv_at hl 0 rfl) ?_
    refine k_X6_performsBranch S hK hA hP hD hS tl_X6_138 ⟨Nat.le_of_ble_eq_true rfl, Nat.le_of_ble_eq_true rfl⟩ hl.1 (Nat.le_of_ble_eq_true rfl) dX6_performs_241 (fun H locs hP hD hS => ?_)
    exact hend (F_X6_performsBranch σ).1 (F_X6_performsBranch σ).2 H locs 244 ls (Option.some.inj hf) hP hD hS dX6_performs_244
  rw [if_neg c_10_23] at hf
  by_cases c_10_24 : ((j_iushr (xO σ) (24 : Int32)) &&& (31 : Int32)) = 24
  · rw [if_pos c_10_24] at hf
    refine gt_in (k := 24) (tgt := 245) hx hb dX6_performs_10 c_10_24 (by decide) (by decide) rfl (by decide) ?_
    refine lv_aload_n hx hb dX6_performs_245 rfl (lv_at hl 0 rfl) ?_
    refine fg_X6_word S hK hP tf_X6_100 dX6_performs_246 ?_
    refine lv_bipush (v := 29) hx hb dX6_performs_249 (by decide) ?_
    refine k_X1_isOne (a0 := (xO σ)) (a1 := (29 : Int32)) S tl_X6_120 ⟨Nat.le_of_ble_eq_true rfl, Nat.le_of_ble_eq_true rfl⟩ hl.1 (Nat.le_of_ble_eq_true rfl) dX6_performs_251 ?_
    refine gz_eq (tgt := 271) hx hb dX6_performs_254 (by decide) (fun c_254 => ?_) (fun c_254 => ?_)
    · rw [if_neg c_254] at hf
      refine lv_aload_n hx hb dX6_performs_271 rfl (lv_at hl 0 rfl) ?_
      refine fg_X6_accesses S hK hP tf_X6_47 dX6_performs_272 ?_
      refine lv_aload_n hx hb dX6_performs_275 rfl (lv_at hl 0 rfl) ?_
      refine fg_X6_word S hK hP tf_X6_100 dX6_performs_276 ?_
      obtain ⟨v3, e_v3, hf⟩ := Option.bind_eq_some_iff.mp hf
      refine k_X0_near (a0 := (xO σ)) (res := v3) (hres := e_v3) S hK hA hP hD hS tl_X6_144 ⟨Nat.le_of_ble_eq_true rfl, Nat.le_of_ble_eq_true rfl⟩ hl.1 (Nat.le_of_ble_eq_true rfl) dX6_performs_279 (fun H locs hP hD hS => ?_)
      exact hend v3.1 v3.2 H locs 282 ls (Option.some.inj hf) hP hD hS dX6_performs_282
    · rw [if_pos c_254] at hf
      refine lv_aload_n hx hb dX6_performs_257 rfl (lv_at hl 0 rfl) ?_
      refine fg_X6_accesses S hK hP tf_X6_47 dX6_performs_258 ?_
      refine lv_aload_n hx hb dX6_performs_261 rfl (lv_at hl 0 rfl) ?_
      refine fg_X6_word S hK hP tf_X6_100 dX6_performs_262 ?_
      obtain ⟨v4, e_v4, hf⟩ := Option.bind_eq_some_iff.mp hf
      refine k_X0_single (a0 := (xO σ)) (res := v4) (hres := e_v4) S hK hA hP hD hS tl_X6_141 ⟨Nat.le_of_ble_eq_true rfl, Nat.le_of_ble_eq_true rfl⟩ hl.1 (Nat.le_of_ble_eq_true rfl) dX6_performs_265 (fun H locs hP hD hS => ?_)
      refine lv_goto (tgt := 282) hx hb dX6_performs_268 (by decide) ?_
      exact hend v4.1 v4.2 H locs 282 ls (Option.some.inj hf) hP hD hS dX6_performs_282
  rw [if_neg c_10_24] at hf
  by_cases c_10_25 : ((j_iushr (xO σ) (24 : Int32)) &&& (31 : Int32)) = 25
  · rw [if_pos c_10_25] at hf
    refine gt_in (k := 25) (tgt := 283) hx hb dX6_performs_10 c_10_25 (by decide) (by decide) rfl (by decide) ?_
    refine lv_aload_n hx hb dX6_performs_283 rfl (lv_at hl 0 rfl) ?_
    refine fg_X6_word S hK hP tf_X6_100 dX6_performs_284 ?_
    refine lv_bipush (v := 29) hx hb dX6_performs_287 (by decide) ?_
    refine k_X1_isOne (a0 := (xO σ)) (a1 := (29 : Int32)) S tl_X6_120 ⟨Nat.le_of_ble_eq_true rfl, Nat.le_of_ble_eq_true rfl⟩ hl.1 (Nat.le_of_ble_eq_true rfl) dX6_performs_289 ?_
    refine gz_eq (tgt := 313) hx hb dX6_performs_292 (by decide) (fun c_292 => ?_) (fun c_292 => ?_)
    · rw [if_neg c_292] at hf
      refine lv_iconst (v := 0) hx hb dX6_performs_313 (by decide) ?_
      exact hend false σ H locs 314 ls (Option.some.inj hf) hP hD hS dX6_performs_314
    · rw [if_pos c_292] at hf
      refine lv_aload_n hx hb dX6_performs_295 rfl (lv_at hl 0 rfl) ?_
      refine fg_X6_accesses S hK hP tf_X6_47 dX6_performs_296 ?_
      refine lv_aload_n hx hb dX6_performs_299 rfl (lv_at hl 0 rfl) ?_
      refine fg_X6_word S hK hP tf_X6_100 dX6_performs_300 ?_
      obtain ⟨v5, e_v5, hf⟩ := Option.bind_eq_some_iff.mp hf
      refine k_X0_single (a0 := (xO σ)) (res := v5) (hres := e_v5) S hK hA hP hD hS tl_X6_141 ⟨Nat.le_of_ble_eq_true rfl, Nat.le_of_ble_eq_true rfl⟩ hl.1 (Nat.le_of_ble_eq_true rfl) dX6_performs_303 (fun H locs hP hD hS => ?_)
      refine gz_eq (tgt := 313) hx hb dX6_performs_306 (by decide) (fun c_306 => ?_) (fun c_306 => ?_)
      · rw [if_neg c_306] at hf
        refine lv_iconst (v := 0) hx hb dX6_performs_313 (by decide) ?_
        exact hend false v5.2 H locs 314 ls (Option.some.inj hf) hP hD hS dX6_performs_314
      · rw [if_pos c_306] at hf
        refine lv_iconst (v := 1) hx hb dX6_performs_309 (by decide) ?_
        refine lv_goto (tgt := 314) hx hb dX6_performs_310 (by decide) ?_
        exact hend true v5.2 H locs 314 ls (Option.some.inj hf) hP hD hS dX6_performs_314
  rw [if_neg c_10_25] at hf
  by_cases c_10_26 : ((j_iushr (xO σ) (24 : Int32)) &&& (31 : Int32)) = 26
  · rw [if_pos c_10_26] at hf
    refine gt_in (k := 26) (tgt := 315) hx hb dX6_performs_10 c_10_26 (by decide) (by decide) rfl (by decide) ?_
    refine lv_aload_n hx hb dX6_performs_315 rfl (lv_at hl 0 rfl) ?_
    refine k_X6_performsRegisters S hK hA hP hD hS tl_X6_147 ⟨Nat.le_of_ble_eq_true rfl, Nat.le_of_ble_eq_true rfl⟩ hl.1 (Nat.le_of_ble_eq_true rfl) dX6_performs_316 (fun H locs hP hD hS => ?_)
    exact hend (F_X6_performsRegisters σ).1 (F_X6_performsRegisters σ).2 H locs 319 ls (Option.some.inj hf) hP hD hS dX6_performs_319
  rw [if_neg c_10_26] at hf
  by_cases c_10_27 : ((j_iushr (xO σ) (24 : Int32)) &&& (31 : Int32)) = 27
  · rw [if_pos c_10_27] at hf
    refine gt_in (k := 27) (tgt := 320) hx hb dX6_performs_10 c_10_27 (by decide) (by decide) rfl (by decide) ?_
    refine lv_aload_n hx hb dX6_performs_320 rfl (lv_at hl 0 rfl) ?_
    refine fg_X6_registers S hK hP tf_X6_38 dX6_performs_321 ?_
    refine lv_aload_n hx hb dX6_performs_324 rfl (lv_at hl 0 rfl) ?_
    refine fg_X6_word S hK hP tf_X6_100 dX6_performs_325 ?_
    refine k_X7_times (a0 := (xO σ)) S hK hA hP hD hS tl_X6_150 ⟨Nat.le_of_ble_eq_true rfl, Nat.le_of_ble_eq_true rfl⟩ hl.1 (Nat.le_of_ble_eq_true rfl) dX6_performs_328 (fun H locs hP hD hS => ?_)
    refine gz_ne (tgt := 348) hx hb dX6_performs_331 (by decide) (fun c_331 => ?_) (fun c_331 => ?_)
    · rw [if_pos c_331] at hf
      refine lv_iconst (v := 1) hx hb dX6_performs_348 (by decide) ?_
      refine lv_goto (tgt := 353) hx hb dX6_performs_349 (by decide) ?_
      exact hend true (F_X7_times σ (xO σ)).2 H locs 353 ls (Option.some.inj hf) hP hD hS dX6_performs_353
    · rw [if_neg c_331] at hf
      refine lv_aload_n hx hb dX6_performs_334 rfl (lv_at hl 0 rfl) ?_
      refine fg_X6_registers S hK hP tf_X6_38 dX6_performs_335 ?_
      refine lv_aload_n hx hb dX6_performs_338 rfl (lv_at hl 0 rfl) ?_
      refine fg_X6_word S hK hP tf_X6_100 dX6_performs_339 ?_
      refine k_X7_upperTimes (a0 := (xO (F_X7_times σ (xO σ)).2)) S hK hA hP hD hS tl_X6_153 ⟨Nat.le_of_ble_eq_true rfl, Nat.le_of_ble_eq_true rfl⟩ hl.1 (Nat.le_of_ble_eq_true rfl) dX6_performs_342 (fun H locs hP hD hS => ?_)
      refine gz_eq (tgt := 352) hx hb dX6_performs_345 (by decide) (fun c_345 => ?_) (fun c_345 => ?_)
      · rw [if_neg c_345] at hf
        refine lv_iconst (v := 0) hx hb dX6_performs_352 (by decide) ?_
        exact hend false (F_X7_upperTimes (F_X7_times σ (xO σ)).2 (xO (F_X7_times σ (xO σ)).2)).2 H locs 353 ls (Option.some.inj hf) hP hD hS dX6_performs_353
      · rw [if_pos c_345] at hf
        refine lv_iconst (v := 1) hx hb dX6_performs_348 (by decide) ?_
        refine lv_goto (tgt := 353) hx hb dX6_performs_349 (by decide) ?_
        exact hend true (F_X7_upperTimes (F_X7_times σ (xO σ)).2 (xO (F_X7_times σ (xO σ)).2)).2 H locs 353 ls (Option.some.inj hf) hP hD hS dX6_performs_353
  rw [if_neg c_10_27] at hf
  by_cases c_10_12 : ((j_iushr (xO σ) (24 : Int32)) &&& (31 : Int32)) = 12
  · refine gt_in (k := 12) (tgt := 354) hx hb dX6_performs_10 c_10_12 (by decide) (by decide) rfl (by decide) ?_
    refine lv_iconst (v := 0) hx hb dX6_performs_354 (by decide) ?_
    exact hend false σ H locs 355 ls (Option.some.inj hf) hP hD hS dX6_performs_355
  by_cases c_10_13 : ((j_iushr (xO σ) (24 : Int32)) &&& (31 : Int32)) = 13
  · refine gt_in (k := 13) (tgt := 354) hx hb dX6_performs_10 c_10_13 (by decide) (by decide) rfl (by decide) ?_
    refine lv_iconst (v := 0) hx hb dX6_performs_354 (by decide) ?_
    exact hend false σ H locs 355 ls (Option.some.inj hf) hP hD hS dX6_performs_355
  by_cases c_10_14 : ((j_iushr (xO σ) (24 : Int32)) &&& (31 : Int32)) = 14
  · refine gt_in (k := 14) (tgt := 354) hx hb dX6_performs_10 c_10_14 (by decide) (by decide) rfl (by decide) ?_
    refine lv_iconst (v := 0) hx hb dX6_performs_354 (by decide) ?_
    exact hend false σ H locs 355 ls (Option.some.inj hf) hP hD hS dX6_performs_355
  by_cases c_10_15 : ((j_iushr (xO σ) (24 : Int32)) &&& (31 : Int32)) = 15
  · refine gt_in (k := 15) (tgt := 354) hx hb dX6_performs_10 c_10_15 (by decide) (by decide) rfl (by decide) ?_
    refine lv_iconst (v := 0) hx hb dX6_performs_354 (by decide) ?_
    exact hend false σ H locs 355 ls (Option.some.inj hf) hP hD hS dX6_performs_355
  refine lv_tableOut (tgt := 354) hx hb dX6_performs_10 (by have q0 := lv_neT c_10_8 (show ((8 : Int32)).toInt = 8 from rfl); have q1 := lv_neT c_10_9 (show ((9 : Int32)).toInt = 9 from rfl); have q2 := lv_neT c_10_10 (show ((10 : Int32)).toInt = 10 from rfl); have q3 := lv_neT c_10_11 (show ((11 : Int32)).toInt = 11 from rfl); have q4 := lv_neT c_10_12 (show ((12 : Int32)).toInt = 12 from rfl); have q5 := lv_neT c_10_13 (show ((13 : Int32)).toInt = 13 from rfl); have q6 := lv_neT c_10_14 (show ((14 : Int32)).toInt = 14 from rfl); have q7 := lv_neT c_10_15 (show ((15 : Int32)).toInt = 15 from rfl); have q8 := lv_neT c_10_16 (show ((16 : Int32)).toInt = 16 from rfl); have q9 := lv_neT c_10_17 (show ((17 : Int32)).toInt = 17 from rfl); have q10 := lv_neT c_10_18 (show ((18 : Int32)).toInt = 18 from rfl); have q11 := lv_neT c_10_19 (show ((19 : Int32)).toInt = 19 from rfl); have q12 := lv_neT c_10_20 (show ((20 : Int32)).toInt = 20 from rfl); have q13 := lv_neT c_10_21 (show ((21 : Int32)).toInt = 21 from rfl); have q14 := lv_neT c_10_22 (show ((22 : Int32)).toInt = 22 from rfl); have q15 := lv_neT c_10_23 (show ((23 : Int32)).toInt = 23 from rfl); have q16 := lv_neT c_10_24 (show ((24 : Int32)).toInt = 24 from rfl); have q17 := lv_neT c_10_25 (show ((25 : Int32)).toInt = 25 from rfl); have q18 := lv_neT c_10_26 (show ((26 : Int32)).toInt = 26 from rfl); have q19 := lv_neT c_10_27 (show ((27 : Int32)).toInt = 27 from rfl); omega) (by decide) ?_
  refine lv_iconst (v := 0) hx hb dX6_performs_354 (by decide) ?_
  exact hend false σ H locs 355 ls (Option.some.inj hf) hP hD hS dX6_performs_355
theorem k_X6_performs {p : Program} {l : Launch} {e : Env} {R : Room} {s : State} {m : MethodId} {args : Array Value} {below : List Frame} {meth : Method} {c : Code} {H : Heap} {locs : List Loc} {Q : State → Prop} {cc : ByteArray} {pc : Nat} {ls : Array Slot} {rest : List Value} {own : String} {index nL : Nat} {A : Nat → Prop} {z : Cx} {r : Nat → Nat} {σ : XS} {res : Bool × XS} (hres : F_X6_performs σ = some res) (S : CallFix p m c cc nL s args tbG own) (hK : va_K z.1 vwCl (cxT z) s) (hA : ∀ q, s.heap.size ≤ q → A q) (hP : va_P z.1 vwCl (xW z r σ) H) (hD : va_D A (xW z r σ)) (hS : va_S A s.heap H locs) (hl : Cond.methodLink own index yX6_performs ∈ tbG) (hR : 6 + 1 ≤ R.frames ∧ 8 + (1 + 11) + 171 ≤ R.locals) (hsz : ls.size = nL) (hcat : (rest.map fun v => v.category).sum ≤ 8) (hdg : decode cc pc = .ok (.invokevirtual index, 3)) (kk : ∀ (H : Heap) (locs : List Loc), va_P z.1 vwCl (xW z r res.2) H → va_D A (xW z r res.2) → va_S A s.heap H locs → W p l e R s m args below meth c H locs 0 0 Q (F0 m (pc + 3) ls (.int (zB res.1) :: rest))) : W p l e R s m args below meth c H locs 0 0 Q (F0 m pc ls (.ref (r 6) :: rest)) :=
  km (As := []) (ov := some (.int (zB res.1))) (w' := xW z r res.2) (q0 := 6) (ci := 5) S hK hA hP hD hS (c_X6_performs l z r σ H.size _ hres) ⟨tb_cB 0 S.2.2.2.2 tc_X6_performs ti_X6 hl rfl rfl (by decide +kernel) hR, S.2.2.2.2 _ tm_X6_performs, S.2.2.2.2 _ te_X6_performs⟩ rfl rfl rfl rfl hsz rfl hcat hdg kk

theorem dX8_putInterrupt_0 : decode cX8_putInterrupt 0 = .ok (.aload_n 0, 1) := by decide +kernel
theorem dX8_putInterrupt_1 : decode cX8_putInterrupt 1 = .ok (.iload_n 1, 1) := by decide +kernel
theorem dX8_putInterrupt_2 : decode cX8_putInterrupt 2 = .ok (.putfield 33, 3) := by decide +kernel
theorem dX8_putInterrupt_5 : decode cX8_putInterrupt 5 = .ok (.return_, 1) := by decide +kernel
def F_X8_putInterrupt (σ : XS) (a0 : Bool) : XS := (xuI σ a0)
set_option maxHeartbeats 4000000 in
set_option maxRecDepth 100000 in
theorem c_X8_putInterrupt (l : Launch) (z : Cx) (r : Nat → Nat) (σ : XS) (a0 : Bool) (sz : Nat) (res : XS) (hf : F_X8_putInterrupt σ a0 = res) : Met l yX8_putInterrupt (wsC yX8_putInterrupt cX8_putInterrupt 2 none) { frames := 0, cells := 0, slots := 0, locals := 0 } (mPc z (xW z r σ) sz [.ref (r 3), .int (zB a0)]) (gM z (va_A (xW z r σ) sz) none (xW z r res)) 0 0 (va_A (xW z r σ) sz) := by
  refine mk_m_v (own := RX8) (wf := xW z r) (by decide) rfl sz _ (Nat.le_of_ble_eq_true rfl) (fun p e s m below meth c A H locs Q ls S hK hA hP hD hS hl hend => ?_)
  have hx := S.1
  have hb := S.2.1
  have hown := S.2.2.2.1
  have hts := S.2.2.2.2
  have hl : lv_has ls 2 [(0, .ref (r 3)), (1, .int (zB a0))] := hl
  unfold F_X8_putInterrupt at hf
  refine lv_aload_n hx hb dX8_putInterrupt_0 rfl (lv_at hl 0 rfl) ?_
  refine lv_iload_n hx hb dX8_putInterrupt_1 rfl (lv_at hl 1 rfl) ?_
  refine fp_X8_interrupted (v := a0) S hK hP hD hS tf_X8_33 dX8_putInterrupt_2 (fun H locs hP hD hS => ?_)
  exact hend (xuI σ a0) H locs 5 ls hf hP hD hS dX8_putInterrupt_5
theorem k_X8_putInterrupt {p : Program} {l : Launch} {e : Env} {R : Room} {s : State} {m : MethodId} {args : Array Value} {below : List Frame} {meth : Method} {c : Code} {H : Heap} {locs : List Loc} {Q : State → Prop} {cc : ByteArray} {pc : Nat} {ls : Array Slot} {rest : List Value} {own : String} {index nL : Nat} {A : Nat → Prop} {z : Cx} {r : Nat → Nat} {σ : XS} {a0 : Bool} (S : CallFix p m c cc nL s args tbG own) (hK : va_K z.1 vwCl (cxT z) s) (hA : ∀ q, s.heap.size ≤ q → A q) (hP : va_P z.1 vwCl (xW z r σ) H) (hD : va_D A (xW z r σ)) (hS : va_S A s.heap H locs) (hl : Cond.methodLink own index yX8_putInterrupt ∈ tbG) (hR : 0 + 1 ≤ R.frames ∧ 8 + (2 + 11) + 0 ≤ R.locals) (hsz : ls.size = nL) (hcat : (rest.map fun v => v.category).sum ≤ 8) (hdg : decode cc pc = .ok (.invokevirtual index, 3)) (kk : ∀ (H : Heap) (locs : List Loc), va_P z.1 vwCl (xW z r (F_X8_putInterrupt σ a0)) H → va_D A (xW z r (F_X8_putInterrupt σ a0)) → va_S A s.heap H locs → W p l e R s m args below meth c H locs 0 0 Q (F0 m (pc + 3) ls (rest))) : W p l e R s m args below meth c H locs 0 0 Q (F0 m pc ls (.int (zB a0) :: .ref (r 3) :: rest)) :=
  km (As := [.int (zB a0)]) (ov := none) (w' := xW z r (F_X8_putInterrupt σ a0)) (q0 := 3) (ci := 7) S hK hA hP hD hS (c_X8_putInterrupt l z r σ a0 H.size _ rfl) ⟨tb_cB 1 S.2.2.2.2 tc_X8_putInterrupt ti_X8 hl rfl rfl (by decide +kernel) hR, S.2.2.2.2 _ tm_X8_putInterrupt, S.2.2.2.2 _ te_X8_putInterrupt⟩ rfl rfl rfl rfl hsz rfl hcat hdg kk

theorem dX8_taken_0 : decode cX8_taken 0 = .ok (.aload_n 0, 1) := by decide +kernel
theorem dX8_taken_1 : decode cX8_taken 1 = .ok (.getfield 37, 3) := by decide +kernel
theorem dX8_taken_4 : decode cX8_taken 4 = .ok (.ireturn, 1) := by decide +kernel
def F_X8_taken (σ : XS)  : Int32 := (xT σ)
set_option maxHeartbeats 4000000 in
set_option maxRecDepth 100000 in
theorem c_X8_taken (l : Launch) (z : Cx) (r : Nat → Nat) (σ : XS) (res : Int32) (hf : F_X8_taken σ = res) : Met l yX8_taken (wsC yX8_taken cX8_taken 1 (some .int)) { frames := 0, cells := 0, slots := 0, locals := 0 } (rPc z (xW z r σ) [.ref (r 3)]) (gS (some (.int res))) 0 0 (fun _ => False) := by
  refine mk_r_i (own := RX8) (by decide) rfl _ (Nat.le_of_ble_eq_true rfl) (fun p e s m below meth c H locs Q ls S hK hP hl hend => ?_)
  have hx := S.1
  have hb := S.2.1
  have hown := S.2.2.2.1
  have hts := S.2.2.2.2
  have hl : lv_has ls 1 [(0, .ref (r 3))] := hl
  unfold F_X8_taken at hf
  refine lv_aload_n hx hb dX8_taken_0 rfl (lv_at hl 0 rfl) ?_
  refine fg_X8_taken S hK hP tf_X8_37 dX8_taken_1 ?_
  exact hend (xT σ) 4 ls hf dX8_taken_4
theorem k_X8_taken {p : Program} {l : Launch} {e : Env} {R : Room} {s : State} {m : MethodId} {args : Array Value} {below : List Frame} {meth : Method} {c : Code} {H : Heap} {locs : List Loc} {Q : State → Prop} {cc : ByteArray} {pc : Nat} {ls : Array Slot} {rest : List Value} {own : String} {index nL : Nat} {z : Cx} {r : Nat → Nat} {σ : XS} (S : CallFix p m c cc nL s args tbG own) (hK : va_K z.1 vwCl (cxT z) s) (hP : va_P z.1 vwCl (xW z r σ) H) (hl : Cond.methodLink own index yX8_taken ∈ tbG) (hR : 0 + 1 ≤ R.frames ∧ 8 + (1 + 11) + 0 ≤ R.locals) (hsz : ls.size = nL) (hcat : (rest.map fun v => v.category).sum ≤ 8) (hdg : decode cc pc = .ok (.invokevirtual index, 3)) (kk : W p l e R s m args below meth c H locs 0 0 Q (F0 m (pc + 3) ls (.int (F_X8_taken σ) :: rest))) : W p l e R s m args below meth c H locs 0 0 Q (F0 m pc ls (.ref (r 3) :: rest)) :=
  kr (As := []) (ov := some (.int (F_X8_taken σ))) (q0 := 3) (ci := 7) S hK hP (c_X8_taken l z r σ _ rfl) ⟨tb_cB 0 S.2.2.2.2 tc_X8_taken ti_X8 hl rfl rfl (by decide +kernel) hR, S.2.2.2.2 _ tm_X8_taken, S.2.2.2.2 _ te_X8_taken⟩ rfl rfl rfl rfl hsz rfl hcat hdg kk

theorem dX8_begin_0 : decode cX8_begin 0 = .ok (.aload_n 0, 1) := by decide +kernel
theorem dX8_begin_1 : decode cX8_begin 1 = .ok (.aload_n 0, 1) := by decide +kernel
theorem dX8_begin_2 : decode cX8_begin 2 = .ok (.getfield 9, 3) := by decide +kernel
theorem dX8_begin_5 : decode cX8_begin 5 = .ok (.bipush 33, 2) := by decide +kernel
theorem dX8_begin_7 : decode cX8_begin 7 = .ok (.laload, 1) := by decide +kernel
theorem dX8_begin_8 : decode cX8_begin 8 = .ok (.ldc2_w 29, 3) := by decide +kernel
theorem dX8_begin_11 : decode cX8_begin 11 = .ok (.ladd, 1) := by decide +kernel
theorem dX8_begin_12 : decode cX8_begin 12 = .ok (.putfield 41, 3) := by decide +kernel
theorem dX8_begin_15 : decode cX8_begin 15 = .ok (.return_, 1) := by decide +kernel
def F_X8_begin (σ : XS)  : XS := (xuN σ ((xP σ (33 : Int32).toNatClampNeg) + (4 : Int64)))
set_option maxHeartbeats 4000000 in
set_option maxRecDepth 100000 in
theorem c_X8_begin (l : Launch) (z : Cx) (r : Nat → Nat) (σ : XS) (sz : Nat) (res : XS) (hf : F_X8_begin σ = res) : Met l yX8_begin (wsC yX8_begin cX8_begin 1 none) { frames := 0, cells := 0, slots := 0, locals := 0 } (mPc z (xW z r σ) sz [.ref (r 3)]) (gM z (va_A (xW z r σ) sz) none (xW z r res)) 0 0 (va_A (xW z r σ) sz) := by
  refine mk_m_v (own := RX8) (wf := xW z r) (by decide) rfl sz _ (Nat.le_of_ble_eq_true rfl) (fun p e s m below meth c A H locs Q ls S hK hA hP hD hS hl hend => ?_)
  have hx := S.1
  have hb := S.2.1
  have hown := S.2.2.2.1
  have hts := S.2.2.2.2
  have hl : lv_has ls 1 [(0, .ref (r 3))] := hl
  unfold F_X8_begin at hf
  refine lv_aload_n hx hb dX8_begin_0 rfl (lv_at hl 0 rfl) ?_
  refine lv_aload_n hx hb dX8_begin_1 rfl (lv_at hl 0 rfl) ?_
  refine fg_X8_parts S hK hP tf_X8_9 dX8_begin_2 ?_
  refine lv_bipush (v := 33) hx hb dX8_begin_5 (by decide) ?_
  refine al_xP S hK hP (show vp_in (33 : Int32) 46 by unfold vp_in; decide) dX8_begin_7 ?_
  refine lv_ldc2 (v := 4) hx hb hown (hts _ tk_X8_29) dX8_begin_8 ?_
  refine lv_ladd hx hb dX8_begin_11 ?_
  refine fp_X8_next (v := ((xP σ (33 : Int32).toNatClampNeg) + (4 : Int64))) S hK hP hD hS tf_X8_41 dX8_begin_12 (fun H locs hP hD hS => ?_)
  exact hend (xuN σ ((xP σ (33 : Int32).toNatClampNeg) + (4 : Int64))) H locs 15 ls hf hP hD hS dX8_begin_15
theorem k_X8_begin {p : Program} {l : Launch} {e : Env} {R : Room} {s : State} {m : MethodId} {args : Array Value} {below : List Frame} {meth : Method} {c : Code} {H : Heap} {locs : List Loc} {Q : State → Prop} {cc : ByteArray} {pc : Nat} {ls : Array Slot} {rest : List Value} {own : String} {index nL : Nat} {A : Nat → Prop} {z : Cx} {r : Nat → Nat} {σ : XS} (S : CallFix p m c cc nL s args tbG own) (hK : va_K z.1 vwCl (cxT z) s) (hA : ∀ q, s.heap.size ≤ q → A q) (hP : va_P z.1 vwCl (xW z r σ) H) (hD : va_D A (xW z r σ)) (hS : va_S A s.heap H locs) (hl : Cond.methodLink own index yX8_begin ∈ tbG) (hR : 0 + 1 ≤ R.frames ∧ 8 + (1 + 11) + 0 ≤ R.locals) (hsz : ls.size = nL) (hcat : (rest.map fun v => v.category).sum ≤ 8) (hdg : decode cc pc = .ok (.invokevirtual index, 3)) (kk : ∀ (H : Heap) (locs : List Loc), va_P z.1 vwCl (xW z r (F_X8_begin σ)) H → va_D A (xW z r (F_X8_begin σ)) → va_S A s.heap H locs → W p l e R s m args below meth c H locs 0 0 Q (F0 m (pc + 3) ls (rest))) : W p l e R s m args below meth c H locs 0 0 Q (F0 m pc ls (.ref (r 3) :: rest)) :=
  km (As := []) (ov := none) (w' := xW z r (F_X8_begin σ)) (q0 := 3) (ci := 7) S hK hA hP hD hS (c_X8_begin l z r σ H.size _ rfl) ⟨tb_cB 0 S.2.2.2.2 tc_X8_begin ti_X8 hl rfl rfl (by decide +kernel) hR, S.2.2.2.2 _ tm_X8_begin, S.2.2.2.2 _ te_X8_begin⟩ rfl rfl rfl rfl hsz rfl hcat hdg kk

theorem dX8_finish_0 : decode cX8_finish 0 = .ok (.aload_n 0, 1) := by decide +kernel
theorem dX8_finish_1 : decode cX8_finish 1 = .ok (.getfield 9, 3) := by decide +kernel
theorem dX8_finish_4 : decode cX8_finish 4 = .ok (.bipush 33, 2) := by decide +kernel
theorem dX8_finish_6 : decode cX8_finish 6 = .ok (.aload_n 0, 1) := by decide +kernel
theorem dX8_finish_7 : decode cX8_finish 7 = .ok (.getfield 41, 3) := by decide +kernel
theorem dX8_finish_10 : decode cX8_finish 10 = .ok (.lastore, 1) := by decide +kernel
theorem dX8_finish_11 : decode cX8_finish 11 = .ok (.return_, 1) := by decide +kernel
def F_X8_finish (σ : XS)  : XS := (xuP σ (vp_updL (xP σ) (33 : Int32).toNatClampNeg (xN σ)))
set_option maxHeartbeats 4000000 in
set_option maxRecDepth 100000 in
theorem c_X8_finish (l : Launch) (z : Cx) (r : Nat → Nat) (σ : XS) (sz : Nat) (res : XS) (hf : F_X8_finish σ = res) : Met l yX8_finish (wsC yX8_finish cX8_finish 1 none) { frames := 0, cells := 0, slots := 0, locals := 0 } (mPc z (xW z r σ) sz [.ref (r 3)]) (gM z (va_A (xW z r σ) sz) none (xW z r res)) 0 0 (va_A (xW z r σ) sz) := by
  refine mk_m_v (own := RX8) (wf := xW z r) (by decide) rfl sz _ (Nat.le_of_ble_eq_true rfl) (fun p e s m below meth c A H locs Q ls S hK hA hP hD hS hl hend => ?_)
  have hx := S.1
  have hb := S.2.1
  have hown := S.2.2.2.1
  have hts := S.2.2.2.2
  have hl : lv_has ls 1 [(0, .ref (r 3))] := hl
  unfold F_X8_finish at hf
  refine lv_aload_n hx hb dX8_finish_0 rfl (lv_at hl 0 rfl) ?_
  refine fg_X8_parts S hK hP tf_X8_9 dX8_finish_1 ?_
  refine lv_bipush (v := 33) hx hb dX8_finish_4 (by decide) ?_
  refine lv_aload_n hx hb dX8_finish_6 rfl (lv_at hl 0 rfl) ?_
  refine fg_X8_next S hK hP tf_X8_41 dX8_finish_7 ?_
  refine ar_xP (x := (xN σ)) S hK hP hD hS (show vp_in (33 : Int32) 46 by unfold vp_in; decide) dX8_finish_10 (fun H locs hP hD hS => ?_)
  exact hend (xuP σ (vp_updL (xP σ) (33 : Int32).toNatClampNeg (xN σ))) H locs 11 ls hf hP hD hS dX8_finish_11
theorem k_X8_finish {p : Program} {l : Launch} {e : Env} {R : Room} {s : State} {m : MethodId} {args : Array Value} {below : List Frame} {meth : Method} {c : Code} {H : Heap} {locs : List Loc} {Q : State → Prop} {cc : ByteArray} {pc : Nat} {ls : Array Slot} {rest : List Value} {own : String} {index nL : Nat} {A : Nat → Prop} {z : Cx} {r : Nat → Nat} {σ : XS} (S : CallFix p m c cc nL s args tbG own) (hK : va_K z.1 vwCl (cxT z) s) (hA : ∀ q, s.heap.size ≤ q → A q) (hP : va_P z.1 vwCl (xW z r σ) H) (hD : va_D A (xW z r σ)) (hS : va_S A s.heap H locs) (hl : Cond.methodLink own index yX8_finish ∈ tbG) (hR : 0 + 1 ≤ R.frames ∧ 8 + (1 + 11) + 0 ≤ R.locals) (hsz : ls.size = nL) (hcat : (rest.map fun v => v.category).sum ≤ 8) (hdg : decode cc pc = .ok (.invokevirtual index, 3)) (kk : ∀ (H : Heap) (locs : List Loc), va_P z.1 vwCl (xW z r (F_X8_finish σ)) H → va_D A (xW z r (F_X8_finish σ)) → va_S A s.heap H locs → W p l e R s m args below meth c H locs 0 0 Q (F0 m (pc + 3) ls (rest))) : W p l e R s m args below meth c H locs 0 0 Q (F0 m pc ls (.ref (r 3) :: rest)) :=
  km (As := []) (ov := none) (w' := xW z r (F_X8_finish σ)) (q0 := 3) (ci := 7) S hK hA hP hD hS (c_X8_finish l z r σ H.size _ rfl) ⟨tb_cB 0 S.2.2.2.2 tc_X8_finish ti_X8 hl rfl rfl (by decide +kernel) hR, S.2.2.2.2 _ tm_X8_finish, S.2.2.2.2 _ te_X8_finish⟩ rfl rfl rfl rfl hsz rfl hcat hdg kk

theorem dX11_isWordPlace_0 : decode cX11_isWordPlace 0 = .ok (.iload_n 1, 1) := by decide +kernel
theorem dX11_isWordPlace_1 : decode cX11_isWordPlace 1 = .ok (.iconst 3, 1) := by decide +kernel
theorem dX11_isWordPlace_2 : decode cX11_isWordPlace 2 = .ok (.iand, 1) := by decide +kernel
theorem dX11_isWordPlace_3 : decode cX11_isWordPlace 3 = .ok (.ifCond .ne 20, 3) := by decide +kernel
theorem dX11_isWordPlace_6 : decode cX11_isWordPlace 6 = .ok (.aload_n 0, 1) := by decide +kernel
theorem dX11_isWordPlace_7 : decode cX11_isWordPlace 7 = .ok (.getfield 10, 3) := by decide +kernel
theorem dX11_isWordPlace_10 : decode cX11_isWordPlace 10 = .ok (.iload_n 1, 1) := by decide +kernel
theorem dX11_isWordPlace_11 : decode cX11_isWordPlace 11 = .ok (.i2l, 1) := by decide +kernel
theorem dX11_isWordPlace_12 : decode cX11_isWordPlace 12 = .ok (.iconst 4, 1) := by decide +kernel
theorem dX11_isWordPlace_13 : decode cX11_isWordPlace 13 = .ok (.invokevirtual 92, 3) := by decide +kernel
theorem dX11_isWordPlace_16 : decode cX11_isWordPlace 16 = .ok (.ifCond .eq 7, 3) := by decide +kernel
theorem dX11_isWordPlace_19 : decode cX11_isWordPlace 19 = .ok (.iconst 1, 1) := by decide +kernel
theorem dX11_isWordPlace_20 : decode cX11_isWordPlace 20 = .ok (.goto 4, 3) := by decide +kernel
theorem dX11_isWordPlace_23 : decode cX11_isWordPlace 23 = .ok (.iconst 0, 1) := by decide +kernel
theorem dX11_isWordPlace_24 : decode cX11_isWordPlace 24 = .ok (.ireturn, 1) := by decide +kernel
def F_X11_isWordPlace (σ : XS) (a0 : Int32) : Bool := (if (a0 &&& (3 : Int32)) = 0 then (if (F_X4_holds σ a0.toInt64 (4 : Int32)) = true then true else false) else false)
set_option maxHeartbeats 4000000 in
set_option maxRecDepth 100000 in
theorem c_X11_isWordPlace (l : Launch) (z : Cx) (r : Nat → Nat) (σ : XS) (a0 : Int32) (res : Bool) (hf : F_X11_isWordPlace σ a0 = res) : Met l yX11_isWordPlace (wsC yX11_isWordPlace cX11_isWordPlace 2 (some .boolean)) { frames := 1, cells := 0, slots := 0, locals := 23 } (rPc z (xW z r σ) [.ref (r 0), .int a0]) (gS (some (.int (zB res)))) 0 0 (fun _ => False) := by
  refine mk_r_z (own := RX11) (by decide) rfl _ (Nat.le_of_ble_eq_true rfl) (fun p e s m below meth c H locs Q ls S hK hP hl hend => ?_)
  have hx := S.1
  have hb := S.2.1
  have hown := S.2.2.2.1
  have hts := S.2.2.2.2
  have hl : lv_has ls 2 [(0, .ref (r 0)), (1, .int a0)] := hl
  unfold F_X11_isWordPlace at hf
  refine lv_iload_n hx hb dX11_isWordPlace_0 rfl (lv_at hl 1 rfl) ?_
  refine lv_iconst (v := 3) hx hb dX11_isWordPlace_1 (by decide) ?_
  refine lv_iand hx hb dX11_isWordPlace_2 ?_
  refine lv_if_ne (tgt := 23) hx hb dX11_isWordPlace_3 (by decide) (fun c_3 => ?_) (fun c_3 => ?_)
  · rw [if_neg c_3] at hf
    refine lv_iconst (v := 0) hx hb dX11_isWordPlace_23 (by decide) ?_
    exact hend false 24 ls hf dX11_isWordPlace_24
  · rw [if_pos c_3] at hf
    refine lv_aload_n hx hb dX11_isWordPlace_6 rfl (lv_at hl 0 rfl) ?_
    refine fg_X11_memory S hK hP tf_X11_10 dX11_isWordPlace_7 ?_
    refine lv_iload_n hx hb dX11_isWordPlace_10 rfl (lv_at hl 1 rfl) ?_
    refine lv_i2l hx hb dX11_isWordPlace_11 rfl ?_
    refine lv_iconst (v := 4) hx hb dX11_isWordPlace_12 (by decide) ?_
    refine k_X4_holds (a0 := a0.toInt64) (a1 := (4 : Int32)) S hK hP tl_X11_92 ⟨Nat.le_of_ble_eq_true rfl, Nat.le_of_ble_eq_true rfl⟩ hl.1 (Nat.le_of_ble_eq_true rfl) dX11_isWordPlace_13 ?_
    refine gz_eq (tgt := 23) hx hb dX11_isWordPlace_16 (by decide) (fun c_16 => ?_) (fun c_16 => ?_)
    · rw [if_neg c_16] at hf
      refine lv_iconst (v := 0) hx hb dX11_isWordPlace_23 (by decide) ?_
      exact hend false 24 ls hf dX11_isWordPlace_24
    · rw [if_pos c_16] at hf
      refine lv_iconst (v := 1) hx hb dX11_isWordPlace_19 (by decide) ?_
      refine lv_goto (tgt := 24) hx hb dX11_isWordPlace_20 (by decide) ?_
      exact hend true 24 ls hf dX11_isWordPlace_24
theorem k_X11_isWordPlace {p : Program} {l : Launch} {e : Env} {R : Room} {s : State} {m : MethodId} {args : Array Value} {below : List Frame} {meth : Method} {c : Code} {H : Heap} {locs : List Loc} {Q : State → Prop} {cc : ByteArray} {pc : Nat} {ls : Array Slot} {rest : List Value} {own : String} {index nL : Nat} {z : Cx} {r : Nat → Nat} {σ : XS} {a0 : Int32} (S : CallFix p m c cc nL s args tbG own) (hK : va_K z.1 vwCl (cxT z) s) (hP : va_P z.1 vwCl (xW z r σ) H) (hl : Cond.methodLink own index yX11_isWordPlace ∈ tbG) (hR : 1 + 1 ≤ R.frames ∧ 8 + (2 + 11) + 23 ≤ R.locals) (hsz : ls.size = nL) (hcat : (rest.map fun v => v.category).sum ≤ 8) (hdg : decode cc pc = .ok (.invokevirtual index, 3)) (kk : W p l e R s m args below meth c H locs 0 0 Q (F0 m (pc + 3) ls (.int (zB (F_X11_isWordPlace σ a0)) :: rest))) : W p l e R s m args below meth c H locs 0 0 Q (F0 m pc ls (.int a0 :: .ref (r 0) :: rest)) :=
  kr (As := [.int a0]) (ov := some (.int (zB (F_X11_isWordPlace σ a0)))) (q0 := 0) (ci := 10) S hK hP (c_X11_isWordPlace l z r σ a0 _ rfl) ⟨tb_cB 1 S.2.2.2.2 tc_X11_isWordPlace ti_X11 hl rfl rfl (by decide +kernel) hR, S.2.2.2.2 _ tm_X11_isWordPlace, S.2.2.2.2 _ te_X11_isWordPlace⟩ rfl rfl rfl rfl hsz rfl hcat hdg kk

theorem dX11_poke_0 : decode cX11_poke 0 = .ok (.aload_n 0, 1) := by decide +kernel
theorem dX11_poke_1 : decode cX11_poke 1 = .ok (.iload_n 1, 1) := by decide +kernel
theorem dX11_poke_2 : decode cX11_poke 2 = .ok (.invokevirtual 41, 3) := by decide +kernel
theorem dX11_poke_5 : decode cX11_poke 5 = .ok (.ifCond .ne 5, 3) := by decide +kernel
theorem dX11_poke_8 : decode cX11_poke 8 = .ok (.iconst 0, 1) := by decide +kernel
theorem dX11_poke_9 : decode cX11_poke 9 = .ok (.ireturn, 1) := by decide +kernel
theorem dX11_poke_10 : decode cX11_poke 10 = .ok (.aload_n 0, 1) := by decide +kernel
theorem dX11_poke_11 : decode cX11_poke 11 = .ok (.getfield 10, 3) := by decide +kernel
theorem dX11_poke_14 : decode cX11_poke 14 = .ok (.iload_n 1, 1) := by decide +kernel
theorem dX11_poke_15 : decode cX11_poke 15 = .ok (.i2l, 1) := by decide +kernel
theorem dX11_poke_16 : decode cX11_poke 16 = .ok (.iconst 4, 1) := by decide +kernel
theorem dX11_poke_17 : decode cX11_poke 17 = .ok (.iload_n 2, 1) := by decide +kernel
theorem dX11_poke_18 : decode cX11_poke 18 = .ok (.i2l, 1) := by decide +kernel
theorem dX11_poke_19 : decode cX11_poke 19 = .ok (.invokevirtual 45, 3) := by decide +kernel
theorem dX11_poke_22 : decode cX11_poke 22 = .ok (.iconst 1, 1) := by decide +kernel
theorem dX11_poke_23 : decode cX11_poke 23 = .ok (.ireturn, 1) := by decide +kernel
def F_X11_poke (σ : XS) (a0 : Int32) (a1 : Int32) : Option (Bool × XS) := (if (F_X11_isWordPlace σ a0) = true then ((F_X4_write σ a0.toInt64 (4 : Int32) a1.toInt64).bind fun v1 => some ((true, v1))) else some ((false, σ)))
set_option maxHeartbeats 4000000 in
set_option maxRecDepth 100000 in
theorem c_X11_poke (l : Launch) (z : Cx) (r : Nat → Nat) (σ : XS) (a0 : Int32) (a1 : Int32) (sz : Nat) (res : Bool × XS) (hf : F_X11_poke σ a0 a1 = some res) : Met l yX11_poke (wsC yX11_poke cX11_poke 3 (some .boolean)) { frames := 2, cells := 0, slots := 0, locals := 52 } (mPc z (xW z r σ) sz [.ref (r 0), .int a0, .int a1]) (gM z (va_A (xW z r σ) sz) (some (.int (zB res.1))) (xW z r res.2)) 0 0 (va_A (xW z r σ) sz) := by
  refine mk_m_z (own := RX11) (wf := xW z r) (by decide) rfl sz _ (Nat.le_of_ble_eq_true rfl) (fun p e s m below meth c A H locs Q ls S hK hA hP hD hS hl hend => ?_)
  have hx := S.1
  have hb := S.2.1
  have hown := S.2.2.2.1
  have hts := S.2.2.2.2
  have hl : lv_has ls 3 [(0, .ref (r 0)), (1, .int a0), (2, .int a1)] := hl
  unfold F_X11_poke at hf
  refine lv_aload_n hx hb dX11_poke_0 rfl (lv_at hl 0 rfl) ?_
  refine lv_iload_n hx hb dX11_poke_1 rfl (lv_at hl 1 rfl) ?_
  refine k_X11_isWordPlace (a0 := a0) S hK hP tl_X11_41 ⟨Nat.le_of_ble_eq_true rfl, Nat.le_of_ble_eq_true rfl⟩ hl.1 (Nat.le_of_ble_eq_true rfl) dX11_poke_2 ?_
  refine gz_ne (tgt := 10) hx hb dX11_poke_5 (by decide) (fun c_5 => ?_) (fun c_5 => ?_)
  · rw [if_pos c_5] at hf
    refine lv_aload_n hx hb dX11_poke_10 rfl (lv_at hl 0 rfl) ?_
    refine fg_X11_memory S hK hP tf_X11_10 dX11_poke_11 ?_
    refine lv_iload_n hx hb dX11_poke_14 rfl (lv_at hl 1 rfl) ?_
    refine lv_i2l hx hb dX11_poke_15 rfl ?_
    refine lv_iconst (v := 4) hx hb dX11_poke_16 (by decide) ?_
    refine lv_iload_n hx hb dX11_poke_17 rfl (lv_at hl 2 rfl) ?_
    refine lv_i2l hx hb dX11_poke_18 rfl ?_
    obtain ⟨v1, e_v1, hf⟩ := Option.bind_eq_some_iff.mp hf
    refine k_X4_write (a0 := a0.toInt64) (a1 := (4 : Int32)) (a2 := a1.toInt64) (res := v1) (hres := e_v1) S hK hA hP hD hS tl_X11_45 ⟨Nat.le_of_ble_eq_true rfl, Nat.le_of_ble_eq_true rfl⟩ hl.1 (Nat.le_of_ble_eq_true rfl) dX11_poke_19 (fun H locs hP hD hS => ?_)
    refine lv_iconst (v := 1) hx hb dX11_poke_22 (by decide) ?_
    exact hend true v1 H locs 23 ls (Option.some.inj hf) hP hD hS dX11_poke_23
  · rw [if_neg c_5] at hf
    refine lv_iconst (v := 0) hx hb dX11_poke_8 (by decide) ?_
    exact hend false σ H locs 9 ls (Option.some.inj hf) hP hD hS dX11_poke_9
theorem k_X11_poke {p : Program} {l : Launch} {e : Env} {R : Room} {s : State} {m : MethodId} {args : Array Value} {below : List Frame} {meth : Method} {c : Code} {H : Heap} {locs : List Loc} {Q : State → Prop} {cc : ByteArray} {pc : Nat} {ls : Array Slot} {rest : List Value} {own : String} {index nL : Nat} {A : Nat → Prop} {z : Cx} {r : Nat → Nat} {σ : XS} {a0 : Int32} {a1 : Int32} {res : Bool × XS} (hres : F_X11_poke σ a0 a1 = some res) (S : CallFix p m c cc nL s args tbG own) (hK : va_K z.1 vwCl (cxT z) s) (hA : ∀ q, s.heap.size ≤ q → A q) (hP : va_P z.1 vwCl (xW z r σ) H) (hD : va_D A (xW z r σ)) (hS : va_S A s.heap H locs) (hl : Cond.methodLink own index yX11_poke ∈ tbG) (hR : 2 + 1 ≤ R.frames ∧ 8 + (3 + 11) + 52 ≤ R.locals) (hsz : ls.size = nL) (hcat : (rest.map fun v => v.category).sum ≤ 8) (hdg : decode cc pc = .ok (.invokevirtual index, 3)) (kk : ∀ (H : Heap) (locs : List Loc), va_P z.1 vwCl (xW z r res.2) H → va_D A (xW z r res.2) → va_S A s.heap H locs → W p l e R s m args below meth c H locs 0 0 Q (F0 m (pc + 3) ls (.int (zB res.1) :: rest))) : W p l e R s m args below meth c H locs 0 0 Q (F0 m pc ls (.int a1 :: .int a0 :: .ref (r 0) :: rest)) :=
  km (As := [.int a0, .int a1]) (ov := some (.int (zB res.1))) (w' := xW z r res.2) (q0 := 0) (ci := 10) S hK hA hP hD hS (c_X11_poke l z r σ a0 a1 H.size _ hres) ⟨tb_cB 2 S.2.2.2.2 tc_X11_poke ti_X11 hl rfl rfl (by decide +kernel) hR, S.2.2.2.2 _ tm_X11_poke, S.2.2.2.2 _ te_X11_poke⟩ rfl rfl rfl rfl hsz rfl hcat hdg kk

