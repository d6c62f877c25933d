theorem dX12_single_0 : decode cX12_single 0 = .ok (.aload_n 0, 1) := by decide +kernel
theorem dX12_single_1 : decode cX12_single 1 = .ok (.bipush 9, 2) := by decide +kernel
theorem dX12_single_3 : decode cX12_single 3 = .ok (.iconst 5, 1) := by decide +kernel
theorem dX12_single_4 : decode cX12_single 4 = .ok (.invokevirtual 121, 3) := by decide +kernel
theorem dX12_single_7 : decode cX12_single 7 = .ok (.istore 8, 2) := by decide +kernel
theorem dX12_single_9 : decode cX12_single 9 = .ok (.aload_n 0, 1) := by decide +kernel
theorem dX12_single_10 : decode cX12_single 10 = .ok (.iconst 4, 1) := by decide +kernel
theorem dX12_single_11 : decode cX12_single 11 = .ok (.iconst 0, 1) := by decide +kernel
theorem dX12_single_12 : decode cX12_single 12 = .ok (.invokevirtual 121, 3) := by decide +kernel
theorem dX12_single_15 : decode cX12_single 15 = .ok (.istore 9, 2) := by decide +kernel
theorem dX12_single_17 : decode cX12_single 17 = .ok (.iconst 1, 1) := by decide +kernel
theorem dX12_single_18 : decode cX12_single 18 = .ok (.iload_n 1, 1) := by decide +kernel
theorem dX12_single_19 : decode cX12_single 19 = .ok (.ishl, 1) := by decide +kernel
theorem dX12_single_20 : decode cX12_single 20 = .ok (.istore 10, 2) := by decide +kernel
theorem dX12_single_22 : decode cX12_single 22 = .ok (.aload_n 0, 1) := by decide +kernel
theorem dX12_single_23 : decode cX12_single 23 = .ok (.lload_n 3, 1) := by decide +kernel
theorem dX12_single_24 : decode cX12_single 24 = .ok (.iload 10, 2) := by decide +kernel
theorem dX12_single_26 : decode cX12_single 26 = .ok (.iload_n 2, 1) := by decide +kernel
theorem dX12_single_27 : decode cX12_single 27 = .ok (.ifCond .ne 7, 3) := by decide +kernel
theorem dX12_single_30 : decode cX12_single 30 = .ok (.iconst 1, 1) := by decide +kernel
theorem dX12_single_31 : decode cX12_single 31 = .ok (.goto 4, 3) := by decide +kernel
theorem dX12_single_34 : decode cX12_single 34 = .ok (.iconst 0, 1) := by decide +kernel
theorem dX12_single_35 : decode cX12_single 35 = .ok (.invokevirtual 210, 3) := by decide +kernel
theorem dX12_single_38 : decode cX12_single 38 = .ok (.ifCond .ne 4, 3) := by decide +kernel
theorem dX12_single_41 : decode cX12_single 41 = .ok (.return_, 1) := by decide +kernel
theorem dX12_single_42 : decode cX12_single 42 = .ok (.aload_n 0, 1) := by decide +kernel
theorem dX12_single_43 : decode cX12_single 43 = .ok (.iload 9, 2) := by decide +kernel
theorem dX12_single_45 : decode cX12_single 45 = .ok (.invokevirtual 161, 3) := by decide +kernel
theorem dX12_single_48 : decode cX12_single 48 = .ok (.lstore 11, 2) := by decide +kernel
theorem dX12_single_50 : decode cX12_single 50 = .ok (.aload_n 0, 1) := by decide +kernel
theorem dX12_single_51 : decode cX12_single 51 = .ok (.getfield 44, 3) := by decide +kernel
theorem dX12_single_54 : decode cX12_single 54 = .ok (.l2i, 1) := by decide +kernel
theorem dX12_single_55 : decode cX12_single 55 = .ok (.istore 13, 2) := by decide +kernel
theorem dX12_single_57 : decode cX12_single 57 = .ok (.iload_n 2, 1) := by decide +kernel
theorem dX12_single_58 : decode cX12_single 58 = .ok (.ifCond .ne 11, 3) := by decide +kernel
theorem dX12_single_61 : decode cX12_single 61 = .ok (.aload_n 0, 1) := by decide +kernel
theorem dX12_single_62 : decode cX12_single 62 = .ok (.iload 10, 2) := by decide +kernel
theorem dX12_single_64 : decode cX12_single 64 = .ok (.lload 11, 2) := by decide +kernel
theorem dX12_single_66 : decode cX12_single 66 = .ok (.invokevirtual 214, 3) := by decide +kernel
theorem dX12_single_69 : decode cX12_single 69 = .ok (.iload 5, 2) := by decide +kernel
theorem dX12_single_71 : decode cX12_single 71 = .ok (.ifCond .eq 11, 3) := by decide +kernel
theorem dX12_single_74 : decode cX12_single 74 = .ok (.aload_n 0, 1) := by decide +kernel
theorem dX12_single_75 : decode cX12_single 75 = .ok (.iload 8, 2) := by decide +kernel
theorem dX12_single_77 : decode cX12_single 77 = .ok (.lload 6, 2) := by decide +kernel
theorem dX12_single_79 : decode cX12_single 79 = .ok (.invokevirtual 155, 3) := by decide +kernel
theorem dX12_single_82 : decode cX12_single 82 = .ok (.iload_n 2, 1) := by decide +kernel
theorem dX12_single_83 : decode cX12_single 83 = .ok (.ifCond .ne 4, 3) := by decide +kernel
theorem dX12_single_86 : decode cX12_single 86 = .ok (.return_, 1) := by decide +kernel
theorem dX12_single_87 : decode cX12_single 87 = .ok (.aload_n 0, 1) := by decide +kernel
theorem dX12_single_88 : decode cX12_single 88 = .ok (.iload 13, 2) := by decide +kernel
theorem dX12_single_90 : decode cX12_single 90 = .ok (.iload 10, 2) := by decide +kernel
theorem dX12_single_92 : decode cX12_single 92 = .ok (.invokevirtual 64, 3) := by decide +kernel
theorem dX12_single_95 : decode cX12_single 95 = .ok (.lstore 11, 2) := by decide +kernel
theorem dX12_single_97 : decode cX12_single 97 = .ok (.iload_n 2, 1) := by decide +kernel
theorem dX12_single_98 : decode cX12_single 98 = .ok (.iconst 1, 1) := by decide +kernel
theorem dX12_single_99 : decode cX12_single 99 = .ok (.if_icmp .le 15, 3) := by decide +kernel
theorem dX12_single_102 : decode cX12_single 102 = .ok (.lload 11, 2) := by decide +kernel
theorem dX12_single_104 : decode cX12_single 104 = .ok (.bipush 8, 2) := by decide +kernel
theorem dX12_single_106 : decode cX12_single 106 = .ok (.iload 10, 2) := by decide +kernel
theorem dX12_single_108 : decode cX12_single 108 = .ok (.imul, 1) := by decide +kernel
theorem dX12_single_109 : decode cX12_single 109 = .ok (.invokestatic 125, 3) := by decide +kernel
theorem dX12_single_112 : decode cX12_single 112 = .ok (.lstore 11, 2) := by decide +kernel
theorem dX12_single_114 : decode cX12_single 114 = .ok (.iload_n 2, 1) := by decide +kernel
theorem dX12_single_115 : decode cX12_single 115 = .ok (.iconst 3, 1) := by decide +kernel
theorem dX12_single_116 : decode cX12_single 116 = .ok (.if_icmp .ne 12, 3) := by decide +kernel
theorem dX12_single_119 : decode cX12_single 119 = .ok (.lload 11, 2) := by decide +kernel
theorem dX12_single_121 : decode cX12_single 121 = .ok (.bipush 32, 2) := by decide +kernel
theorem dX12_single_123 : decode cX12_single 123 = .ok (.invokestatic 138, 3) := by decide +kernel
theorem dX12_single_126 : decode cX12_single 126 = .ok (.lstore 11, 2) := by decide +kernel
theorem dX12_single_128 : decode cX12_single 128 = .ok (.aload_n 0, 1) := by decide +kernel
theorem dX12_single_129 : decode cX12_single 129 = .ok (.iload 9, 2) := by decide +kernel
theorem dX12_single_131 : decode cX12_single 131 = .ok (.lload 11, 2) := by decide +kernel
theorem dX12_single_133 : decode cX12_single 133 = .ok (.invokevirtual 151, 3) := by decide +kernel
theorem dX12_single_136 : decode cX12_single 136 = .ok (.return_, 1) := by decide +kernel
def F_X12_single_c128 (τ : MS) (a0 : Int32) (a1 : Int32) (a2 : Int64) (a3 : Bool) (a4 : Int64) (w9 : Int32) (w11 : Int64) : Option (MS) := ((F_X12_put τ w9 w11).bind fun v6 => some (v6))
def F_X12_single_c114 (τ : MS) (a0 : Int32) (a1 : Int32) (a2 : Int64) (a3 : Bool) (a4 : Int64) (w9 : Int32) (w11 : Int64) : Option (MS) := (if a1 = (3 : Int32) then (F_X12_single_c128 τ a0 a1 a2 a3 a4 w9 (F_X12_cut w11 (32 : Int32))) else (F_X12_single_c128 τ a0 a1 a2 a3 a4 w9 w11))
def F_X12_single_c82 (τ : MS) (a0 : Int32) (a1 : Int32) (a2 : Int64) (a3 : Bool) (a4 : Int64) (w9 : Int32) (w10 : Int32) (w13 : Int32) : Option (MS) := (if a1 = 0 then some (τ) else ((F_X12_bytes τ w13 w10).bind fun v5 => (if a1 ≤ (1 : Int32) then (F_X12_single_c114 τ a0 a1 a2 a3 a4 w9 v5) else ((F_X12_extend v5 ((8 : Int32) * w10)).bind fun v7 => (F_X12_single_c114 τ a0 a1 a2 a3 a4 w9 v7)))))
def F_X12_single_c69 (τ : MS) (a0 : Int32) (a1 : Int32) (a2 : Int64) (a3 : Bool) (a4 : Int64) (w8 : Int32) (w9 : Int32) (w10 : Int32) (w13 : Int32) : Option (MS) := (if a3 = true then ((F_X12_putOrPointer τ w8 a4).bind fun v8 => (F_X12_single_c82 v8 a0 a1 a2 a3 a4 w9 w10 w13)) else (F_X12_single_c82 τ a0 a1 a2 a3 a4 w9 w10 w13))
def F_X12_single_c35 (τ : MS) (a0 : Int32) (a1 : Int32) (a2 : Int64) (a3 : Bool) (a4 : Int64) (w8 : Int32) (w9 : Int32) (w10 : Int32) (s1 : Int64) (s2 : Int32) (s3 : Bool) : Option (MS) := ((F_X12_reaches τ s1 s2 s3).bind fun v3 => (if v3.1 = true then ((F_X12_reg v3.2 w9).bind fun v4 => (if a1 = 0 then ((F_X12_keep v3.2 w10 v4).bind fun v9 => (F_X12_single_c69 v9 a0 a1 a2 a3 a4 w8 w9 w10 (m_place v3.2).toInt32)) else (F_X12_single_c69 v3.2 a0 a1 a2 a3 a4 w8 w9 w10 (m_place v3.2).toInt32))) else some (v3.2)))
def F_X12_single_c22 (τ : MS) (a0 : Int32) (a1 : Int32) (a2 : Int64) (a3 : Bool) (a4 : Int64) (w8 : Int32) (w9 : Int32) (w10 : Int32) : Option (MS) := (if a1 = 0 then (F_X12_single_c35 τ a0 a1 a2 a3 a4 w8 w9 w10 a2 w10 true) else (F_X12_single_c35 τ a0 a1 a2 a3 a4 w8 w9 w10 a2 w10 false))
def F_X12_single (σ : MS) (a0 : Int32) (a1 : Int32) (a2 : Int64) (a3 : Bool) (a4 : Int64) : Option (MS) := ((F_X12_f σ (9 : Int32) (5 : Int32)).bind fun v1 => ((F_X12_f σ (4 : Int32) (0 : Int32)).bind fun v2 => (F_X12_single_c22 σ a0 a1 a2 a3 a4 v1 v2 ((1 : Int32) <<< (a0 &&& 31)))))
set_option maxHeartbeats 4000000 in
set_option maxRecDepth 100000 in
theorem c_X12_single (l : Launch) (z : Cx) (r : Nat → Nat) (σ : MS) (a0 : Int32) (a1 : Int32) (a2 : Int64) (a3 : Bool) (a4 : Int64) (sz : Nat) (res : MS) (hf : F_X12_single σ a0 a1 a2 a3 a4 = some res) : Met l yX12_single (wsC yX12_single cX12_single 14 none) { frames := 4, cells := 0, slots := 0, locals := 103 } (mPc z (mW z r σ) sz [.ref (r 0), .int a0, .int a1, .long a2, .int (zB a3), .long a4]) (gM z (va_A (mW z r σ) sz) none (mW z r res)) 0 0 (va_A (mW z r σ) sz) := by
  refine mk_m_v (own := RX12) (wf := mW z r) (by decide) rfl sz _ (Nat.le_of_ble_eq_true rfl) (fun p e s m below meth c A H locs Q ls S hK hA hP hD hS hl hend => ?_)
  have hx := S.1
  have hb := S.2.1
  have hown := S.2.2.2.1
  have hts := S.2.2.2.2
  have hl : lv_has ls 14 [(0, .ref (r 0)), (1, .int a0), (2, .int a1), (3, .long a2), (5, .int (zB a3)), (6, .long a4)] := hl
  have J_c128 : ∀ (τ : MS) (w9 : Int32) (w11 : Int64) (H : Heap) (locs : List Loc) (ls : Array Slot), F_X12_single_c128 τ a0 a1 a2 a3 a4 w9 w11 = some res → va_P z.1 vwCl (mW z r τ) H → va_D A (mW z r τ) → va_S A s.heap H locs → lv_has ls 14 [(0, .ref (r 0)), (9, .int w9), (11, .long w11)] → W p l e { frames := 4, cells := 0, slots := 0, locals := 103 } s m ([.ref (r 0), .int a0, .int a1, .long a2, .int (zB a3), .long a4] : List Value).toArray below meth c H locs 0 0 Q (F0 m 128 ls []) := by
    intro τ w9 w11 H locs ls hf hP hD hS hl
    unfold F_X12_single_c128 at hf
    refine lv_aload_n hx hb dX12_single_128 rfl (lv_at hl 0 rfl) ?_
    refine lv_iload hx hb dX12_single_129 (lv_at hl 1 rfl) ?_
    refine lv_lload hx hb dX12_single_131 (lv_at hl 2 rfl) ?_
    obtain ⟨v6, e_v6, hf⟩ := Option.bind_eq_some_iff.mp hf
    refine k_X12_put (a0 := w9) (a1 := w11) (res := v6) (hres := e_v6) S hK hA hP hD hS tl_X12_151 ⟨Nat.le_of_ble_eq_true rfl, Nat.le_of_ble_eq_true rfl⟩ hl.1 (Nat.le_of_ble_eq_true rfl) dX12_single_133 (fun H locs hP hD hS => ?_)
    exact hend v6 H locs 136 ls (Option.some.inj hf) hP hD hS dX12_single_136
  have J_c114 : ∀ (τ : MS) (w9 : Int32) (w11 : Int64) (H : Heap) (locs : List Loc) (ls : Array Slot), F_X12_single_c114 τ a0 a1 a2 a3 a4 w9 w11 = some res → va_P z.1 vwCl (mW z r τ) H → va_D A (mW z r τ) → va_S A s.heap H locs → lv_has ls 14 [(0, .ref (r 0)), (2, .int a1), (9, .int w9), (11, .long w11)] → W p l e { frames := 4, cells := 0, slots := 0, locals := 103 } s m ([.ref (r 0), .int a0, .int a1, .long a2, .int (zB a3), .long a4] : List Value).toArray below meth c H locs 0 0 Q (F0 m 114 ls []) := by
    intro τ w9 w11 H locs ls hf hP hD hS hl
    unfold F_X12_single_c114 at hf
    refine lv_iload_n hx hb dX12_single_114 rfl (lv_at hl 1 rfl) ?_
    refine lv_iconst (v := 3) hx hb dX12_single_115 (by decide) ?_
    refine lv_icmp_ne (tgt := 128) hx hb dX12_single_116 (by decide) (fun c_116 => ?_) (fun c_116 => ?_)
    · rw [if_neg c_116] at hf
      exact J_c128 τ w9 w11 H locs ls hf hP hD hS (lv_sub hl [0, 2, 3] rfl)
    · rw [if_pos c_116] at hf
      refine lv_lload hx hb dX12_single_119 (lv_at hl 3 rfl) ?_
      refine lv_bipush (v := 32) hx hb dX12_single_121 (by decide) ?_
      refine k_X12_cut (a0 := w11) (a1 := (32 : Int32)) S tl_X12_138 ⟨Nat.le_of_ble_eq_true rfl, Nat.le_of_ble_eq_true rfl⟩ hl.1 (Nat.le_of_ble_eq_true rfl) dX12_single_123 ?_
      refine lv_lstore (lv' := [(11, .long (F_X12_cut w11 (32 : Int32))), (0, .ref (r 0)), (2, .int a1), (9, .int w9)]) hx hb dX12_single_126 hl (by decide) rfl (fun ls hl => ?_)
      exact J_c128 τ w9 (F_X12_cut w11 (32 : Int32)) H locs ls hf hP hD hS (lv_sub hl [1, 3, 0] rfl)
  have J_c82 : ∀ (τ : MS) (w9 : Int32) (w10 : Int32) (w13 : Int32) (H : Heap) (locs : List Loc) (ls : Array Slot), F_X12_single_c82 τ a0 a1 a2 a3 a4 w9 w10 w13 = some res → va_P z.1 vwCl (mW z r τ) H → va_D A (mW z r τ) → va_S A s.heap H locs → lv_has ls 14 [(0, .ref (r 0)), (2, .int a1), (9, .int w9), (10, .int w10), (13, .int w13)] → W p l e { frames := 4, cells := 0, slots := 0, locals := 103 } s m ([.ref (r 0), .int a0, .int a1, .long a2, .int (zB a3), .long a4] : List Value).toArray below meth c H locs 0 0 Q (F0 m 82 ls []) := by
    intro τ w9 w10 w13 H locs ls hf hP hD hS hl
    unfold F_X12_single_c82 at hf
    refine lv_iload_n hx hb dX12_single_82 rfl (lv_at hl 1 rfl) ?_
    refine lv_if_ne (tgt := 87) hx hb dX12_single_83 (by decide) (fun c_83 => ?_) (fun c_83 => ?_)
    · rw [if_neg c_83] at hf
      refine lv_aload_n hx hb dX12_single_87 rfl (lv_at hl 0 rfl) ?_
      refine lv_iload hx hb dX12_single_88 (lv_at hl 4 rfl) ?_
      refine lv_iload hx hb dX12_single_90 (lv_at hl 3 rfl) ?_
      obtain ⟨v5, e_v5, hf⟩ := Option.bind_eq_some_iff.mp hf
      refine k_X12_bytes (a0 := w13) (a1 := w10) (res := v5) (hres := e_v5) S hK hP tl_X12_64 ⟨Nat.le_of_ble_eq_true rfl, Nat.le_of_ble_eq_true rfl⟩ hl.1 (Nat.le_of_ble_eq_true rfl) dX12_single_92 ?_
      refine lv_lstore (lv' := [(11, .long v5), (0, .ref (r 0)), (2, .int a1), (9, .int w9), (10, .int w10), (13, .int w13)]) hx hb dX12_single_95 hl (by decide) rfl (fun ls hl => ?_)
      refine lv_iload_n hx hb dX12_single_97 rfl (lv_at hl 2 rfl) ?_
      refine lv_iconst (v := 1) hx hb dX12_single_98 (by decide) ?_
      refine lv_icmp_le (tgt := 114) hx hb dX12_single_99 (by decide) (fun c_99 => ?_) (fun c_99 => ?_)
      · rw [if_pos c_99] at hf
        exact J_c114 τ w9 v5 H locs ls hf hP hD hS (lv_sub hl [1, 2, 3, 0] rfl)
      · rw [if_neg c_99] at hf
        refine lv_lload hx hb dX12_single_102 (lv_at hl 0 rfl) ?_
        refine lv_bipush (v := 8) hx hb dX12_single_104 (by decide) ?_
        refine lv_iload hx hb dX12_single_106 (lv_at hl 4 rfl) ?_
        refine lv_imul hx hb dX12_single_108 ?_
        obtain ⟨v7, e_v7, hf⟩ := Option.bind_eq_some_iff.mp hf
        refine k_X12_extend (a0 := v5) (a1 := ((8 : Int32) * w10)) (res := v7) (hres := e_v7) S tl_X12_125 ⟨Nat.le_of_ble_eq_true rfl, Nat.le_of_ble_eq_true rfl⟩ hl.1 (Nat.le_of_ble_eq_true rfl) dX12_single_109 ?_
        refine lv_lstore (lv' := [(11, .long v7), (0, .ref (r 0)), (2, .int a1), (9, .int w9), (10, .int w10), (13, .int w13)]) hx hb dX12_single_112 hl (by decide) rfl (fun ls hl => ?_)
        exact J_c114 τ w9 v7 H locs ls hf hP hD hS (lv_sub hl [1, 2, 3, 0] rfl)
    · rw [if_pos c_83] at hf
      exact hend τ H locs 86 ls (Option.some.inj hf) hP hD hS dX12_single_86
  have J_c69 : ∀ (τ : MS) (w8 : Int32) (w9 : Int32) (w10 : Int32) (w13 : Int32) (H : Heap) (locs : List Loc) (ls : Array Slot), F_X12_single_c69 τ a0 a1 a2 a3 a4 w8 w9 w10 w13 = some res → va_P z.1 vwCl (mW z r τ) H → va_D A (mW z r τ) → va_S A s.heap H locs → lv_has ls 14 [(0, .ref (r 0)), (2, .int a1), (5, .int (zB a3)), (6, .long a4), (8, .int w8), (9, .int w9), (10, .int w10), (13, .int w13)] → W p l e { frames := 4, cells := 0, slots := 0, locals := 103 } s m ([.ref (r 0), .int a0, .int a1, .long a2, .int (zB a3), .long a4] : List Value).toArray below meth c H locs 0 0 Q (F0 m 69 ls []) := by
    intro τ w8 w9 w10 w13 H locs ls hf hP hD hS hl
    unfold F_X12_single_c69 at hf
    refine lv_iload hx hb dX12_single_69 (lv_at hl 2 rfl) ?_
    refine gz_eq (tgt := 82) hx hb dX12_single_71 (by decide) (fun c_71 => ?_) (fun c_71 => ?_)
    · rw [if_neg c_71] at hf
      exact J_c82 τ w9 w10 w13 H locs ls hf hP hD hS (lv_sub hl [0, 1, 5, 6, 7] rfl)
    · rw [if_pos c_71] at hf
      refine lv_aload_n hx hb dX12_single_74 rfl (lv_at hl 0 rfl) ?_
      refine lv_iload hx hb dX12_single_75 (lv_at hl 4 rfl) ?_
      refine lv_lload hx hb dX12_single_77 (lv_at hl 3 rfl) ?_
      obtain ⟨v8, e_v8, hf⟩ := Option.bind_eq_some_iff.mp hf
      refine k_X12_putOrPointer (a0 := w8) (a1 := a4) (res := v8) (hres := e_v8) S hK hA hP hD hS tl_X12_155 ⟨Nat.le_of_ble_eq_true rfl, Nat.le_of_ble_eq_true rfl⟩ hl.1 (Nat.le_of_ble_eq_true rfl) dX12_single_79 (fun H locs hP hD hS => ?_)
      exact J_c82 v8 w9 w10 w13 H locs ls hf hP hD hS (lv_sub hl [0, 1, 5, 6, 7] rfl)
  have J_c35 : ∀ (τ : MS) (w8 : Int32) (w9 : Int32) (w10 : Int32) (s1 : Int64) (s2 : Int32) (s3 : Bool) (H : Heap) (locs : List Loc) (ls : Array Slot), F_X12_single_c35 τ a0 a1 a2 a3 a4 w8 w9 w10 s1 s2 s3 = some res → va_P z.1 vwCl (mW z r τ) H → va_D A (mW z r τ) → va_S A s.heap H locs → lv_has ls 14 [(0, .ref (r 0)), (2, .int a1), (5, .int (zB a3)), (6, .long a4), (8, .int w8), (9, .int w9), (10, .int w10)] → W p l e { frames := 4, cells := 0, slots := 0, locals := 103 } s m ([.ref (r 0), .int a0, .int a1, .long a2, .int (zB a3), .long a4] : List Value).toArray below meth c H locs 0 0 Q (F0 m 35 ls [.int (zB s3), .int s2, .long s1, .ref (r 0)]) := by
    intro τ w8 w9 w10 s1 s2 s3 H locs ls hf hP hD hS hl
    unfold F_X12_single_c35 at hf
    obtain ⟨v3, e_v3, hf⟩ := Option.bind_eq_some_iff.mp hf
    refine k_X12_reaches (a0 := s1) (a1 := s2) (a2 := s3) (res := v3) (hres := e_v3) S hK hA hP hD hS tl_X12_210 ⟨Nat.le_of_ble_eq_true rfl, Nat.le_of_ble_eq_true rfl⟩ hl.1 (Nat.le_of_ble_eq_true rfl) dX12_single_35 (fun H locs hP hD hS => ?_)
    refine gz_ne (tgt := 42) hx hb dX12_single_38 (by decide) (fun c_38 => ?_) (fun c_38 => ?_)
    · rw [if_pos c_38] at hf
      refine lv_aload_n hx hb dX12_single_42 rfl (lv_at hl 0 rfl) ?_
      refine lv_iload hx hb dX12_single_43 (lv_at hl 5 rfl) ?_
      obtain ⟨v4, e_v4, hf⟩ := Option.bind_eq_some_iff.mp hf
      refine k_X12_reg (a0 := w9) (res := v4) (hres := e_v4) S hK hP tl_X12_161 ⟨Nat.le_of_ble_eq_true rfl, Nat.le_of_ble_eq_true rfl⟩ hl.1 (Nat.le_of_ble_eq_true rfl) dX12_single_45 ?_
      refine lv_lstore (lv' := [(11, .long v4), (0, .ref (r 0)), (2, .int a1), (5, .int (zB a3)), (6, .long a4), (8, .int w8), (9, .int w9), (10, .int w10)]) hx hb dX12_single_48 hl (by decide) rfl (fun ls hl => ?_)
      refine lv_aload_n hx hb dX12_single_50 rfl (lv_at hl 1 rfl) ?_
      refine fg_X12_place S hK hP tf_X12_44 dX12_single_51 ?_
      refine lv_l2i hx hb dX12_single_54 rfl ?_
      refine lv_istore (lv' := [(13, .int (m_place v3.2).toInt32), (11, .long v4), (0, .ref (r 0)), (2, .int a1), (5, .int (zB a3)), (6, .long a4), (8, .int w8), (9, .int w9), (10, .int w10)]) hx hb dX12_single_55 hl (by decide) rfl (fun ls hl => ?_)
      refine lv_iload_n hx hb dX12_single_57 rfl (lv_at hl 3 rfl) ?_
      refine lv_if_ne (tgt := 69) hx hb dX12_single_58 (by decide) (fun c_58 => ?_) (fun c_58 => ?_)
      · rw [if_neg c_58] at hf
        exact J_c69 v3.2 w8 w9 w10 (m_place v3.2).toInt32 H locs ls hf hP hD hS (lv_sub hl [2, 3, 4, 5, 6, 7, 8, 0] rfl)
      · rw [if_pos c_58] at hf
        refine lv_aload_n hx hb dX12_single_61 rfl (lv_at hl 2 rfl) ?_
        refine lv_iload hx hb dX12_single_62 (lv_at hl 8 rfl) ?_
        refine lv_lload hx hb dX12_single_64 (lv_at hl 1 rfl) ?_
        obtain ⟨v9, e_v9, hf⟩ := Option.bind_eq_some_iff.mp hf
        refine k_X12_keep (a0 := w10) (a1 := v4) (res := v9) (hres := e_v9) S hK hA hP hD hS tl_X12_214 ⟨Nat.le_of_ble_eq_true rfl, Nat.le_of_ble_eq_true rfl⟩ hl.1 (Nat.le_of_ble_eq_true rfl) dX12_single_66 (fun H locs hP hD hS => ?_)
        exact J_c69 v9 w8 w9 w10 (m_place v3.2).toInt32 H locs ls hf hP hD hS (lv_sub hl [2, 3, 4, 5, 6, 7, 8, 0] rfl)
    · rw [if_neg c_38] at hf
      exact hend v3.2 H locs 41 ls (Option.some.inj hf) hP hD hS dX12_single_41
  have J_c22 : ∀ (τ : MS) (w8 : Int32) (w9 : Int32) (w10 : Int32) (H : Heap) (locs : List Loc) (ls : Array Slot), F_X12_single_c22 τ a0 a1 a2 a3 a4 w8 w9 w10 = some res → va_P z.1 vwCl (mW z r τ) H → va_D A (mW z r τ) → va_S A s.heap H locs → lv_has ls 14 [(0, .ref (r 0)), (2, .int a1), (3, .long a2), (5, .int (zB a3)), (6, .long a4), (8, .int w8), (9, .int w9), (10, .int w10)] → W p l e { frames := 4, cells := 0, slots := 0, locals := 103 } s m ([.ref (r 0), .int a0, .int a1, .long a2, .int (zB a3), .long a4] : List Value).toArray below meth c H locs 0 0 Q (F0 m 22 ls []) := by
    intro τ w8 w9 w10 H locs ls hf hP hD hS hl
    unfold F_X12_single_c22 at hf
    refine lv_aload_n hx hb dX12_single_22 rfl (lv_at hl 0 rfl) ?_
    refine lv_lload_n hx hb dX12_single_23 rfl (lv_at hl 2 rfl) ?_
    refine lv_iload hx hb dX12_single_24 (lv_at hl 7 rfl) ?_
    refine lv_iload_n hx hb dX12_single_26 rfl (lv_at hl 1 rfl) ?_
    refine lv_if_ne (tgt := 34) hx hb dX12_single_27 (by decide) (fun c_27 => ?_) (fun c_27 => ?_)
    · rw [if_neg c_27] at hf
      refine lv_iconst (v := 0) hx hb dX12_single_34 (by decide) ?_
      exact J_c35 τ w8 w9 w10 a2 w10 false H locs ls hf hP hD hS (lv_sub hl [0, 1, 3, 4, 5, 6, 7] rfl)
    · rw [if_pos c_27] at hf
      refine lv_iconst (v := 1) hx hb dX12_single_30 (by decide) ?_
      refine lv_goto (tgt := 35) hx hb dX12_single_31 (by decide) ?_
      exact J_c35 τ w8 w9 w10 a2 w10 true H locs ls hf hP hD hS (lv_sub hl [0, 1, 3, 4, 5, 6, 7] rfl)
  unfold F_X12_single at hf
  refine lv_aload_n hx hb dX12_single_0 rfl (lv_at hl 0 rfl) ?_
  refine lv_bipush (v := 9) hx hb dX12_single_1 (by decide) ?_
  refine lv_iconst (v := 5) hx hb dX12_single_3 (by decide) ?_
  obtain ⟨v1, e_v1, hf⟩ := Option.bind_eq_some_iff.mp hf
  refine k_X12_f (a0 := (9 : Int32)) (a1 := (5 : Int32)) (res := v1) (hres := e_v1) S hK hP tl_X12_121 ⟨Nat.le_of_ble_eq_true rfl, Nat.le_of_ble_eq_true rfl⟩ hl.1 (Nat.le_of_ble_eq_true rfl) dX12_single_4 ?_
  refine lv_istore (lv' := [(8, .int v1), (0, .ref (r 0)), (1, .int a0), (2, .int a1), (3, .long a2), (5, .int (zB a3)), (6, .long a4)]) hx hb dX12_single_7 hl (by decide) rfl (fun ls hl => ?_)
  refine lv_aload_n hx hb dX12_single_9 rfl (lv_at hl 1 rfl) ?_
  refine lv_iconst (v := 4) hx hb dX12_single_10 (by decide) ?_
  refine lv_iconst (v := 0) hx hb dX12_single_11 (by decide) ?_
  obtain ⟨v2, e_v2, hf⟩ := Option.bind_eq_some_iff.mp hf
  refine k_X12_f (a0 := (4 : Int32)) (a1 := (0 : Int32)) (res := v2) (hres := e_v2) S hK hP tl_X12_121 ⟨Nat.le_of_ble_eq_true rfl, Nat.le_of_ble_eq_true rfl⟩ hl.1 (Nat.le_of_ble_eq_true rfl) dX12_single_12 ?_
  refine lv_istore (lv' := [(9, .int v2), (8, .int v1), (0, .ref (r 0)), (1, .int a0), (2, .int a1), (3, .long a2), (5, .int (zB a3)), (6, .long a4)]) hx hb dX12_single_15 hl (by decide) rfl (fun ls hl => ?_)
  refine lv_iconst (v := 1) hx hb dX12_single_17 (by decide) ?_
  refine lv_iload_n hx hb dX12_single_18 rfl (lv_at hl 3 rfl) ?_
  refine lv_ishl hx hb dX12_single_19 ?_
  refine lv_istore (lv' := [(10, .int ((1 : Int32) <<< (a0 &&& 31))), (9, .int v2), (8, .int v1), (0, .ref (r 0)), (1, .int a0), (2, .int a1), (3, .long a2), (5, .int (zB a3)), (6, .long a4)]) hx hb dX12_single_20 hl (by decide) rfl (fun ls hl => ?_)
  exact J_c22 σ v1 v2 ((1 : Int32) <<< (a0 &&& 31)) H locs ls hf hP hD hS (lv_sub hl [3, 5, 6, 7, 8, 2, 1, 0] rfl)
theorem k_X12_single {p : Program} {l : Launch} {e : Env} {R : Room} {s : State} {m : MethodId} {args : Array Value} {below : List Frame} {meth : Method} {c : Code} {H : Heap} {locs : List Loc} {Q : State → Prop} {cc : ByteArray} {pc : Nat} {ls : Array Slot} {rest : List Value} {own : String} {index nL : Nat} {A : Nat → Prop} {z : Cx} {r : Nat → Nat} {σ : MS} {a0 : Int32} {a1 : Int32} {a2 : Int64} {a3 : Bool} {a4 : Int64} {res : MS} (hres : F_X12_single σ a0 a1 a2 a3 a4 = some res) (S : CallFix p m c cc nL s args tbG own) (hK : va_K z.1 vwCl (cxT z) s) (hA : ∀ q, s.heap.size ≤ q → A q) (hP : va_P z.1 vwCl (mW z r σ) H) (hD : va_D A (mW z r σ)) (hS : va_S A s.heap H locs) (hl : Cond.methodLink own index yX12_single ∈ tbG) (hR : 4 + 1 ≤ R.frames ∧ 8 + (14 + 11) + 103 ≤ R.locals) (hsz : ls.size = nL) (hcat : (rest.map fun v => v.category).sum ≤ 8) (hdg : decode cc pc = .ok (.invokevirtual index, 3)) (kk : ∀ (H : Heap) (locs : List Loc), va_P z.1 vwCl (mW z r res) H → va_D A (mW z r res) → va_S A s.heap H locs → W p l e R s m args below meth c H locs 0 0 Q (F0 m (pc + 3) ls (rest))) : W p l e R s m args below meth c H locs 0 0 Q (F0 m pc ls (.long a4 :: .int (zB a3) :: .long a2 :: .int a1 :: .int a0 :: .ref (r 0) :: rest)) :=
  km (As := [.int a0, .int a1, .long a2, .int (zB a3), .long a4]) (ov := none) (w' := mW z r res) (q0 := 0) (ci := 11) S hK hA hP hD hS (c_X12_single l z r σ a0 a1 a2 a3 a4 H.size _ hres) ⟨tb_cB 5 S.2.2.2.2 tc_X12_single ti_X12 hl rfl rfl (by decide +kernel) hR, S.2.2.2.2 _ tm_X12_single, S.2.2.2.2 _ te_X12_single⟩ rfl rfl rfl rfl hsz rfl hcat hdg kk

theorem dX12_loads_0 : decode cX12_loads 0 = .ok (.aload_n 0, 1) := by decide +kernel
theorem dX12_loads_1 : decode cX12_loads 1 = .ok (.bipush 31, 2) := by decide +kernel
theorem dX12_loads_3 : decode cX12_loads 3 = .ok (.bipush 30, 2) := by decide +kernel
theorem dX12_loads_5 : decode cX12_loads 5 = .ok (.invokevirtual 121, 3) := by decide +kernel
theorem dX12_loads_8 : decode cX12_loads 8 = .ok (.istore_n 1, 1) := by decide +kernel
theorem dX12_loads_9 : decode cX12_loads 9 = .ok (.aload_n 0, 1) := by decide +kernel
theorem dX12_loads_10 : decode cX12_loads 10 = .ok (.bipush 23, 2) := by decide +kernel
theorem dX12_loads_12 : decode cX12_loads 12 = .ok (.bipush 22, 2) := by decide +kernel
theorem dX12_loads_14 : decode cX12_loads 14 = .ok (.invokevirtual 121, 3) := by decide +kernel
theorem dX12_loads_17 : decode cX12_loads 17 = .ok (.istore_n 2, 1) := by decide +kernel
theorem dX12_loads_18 : decode cX12_loads 18 = .ok (.aload_n 0, 1) := by decide +kernel
theorem dX12_loads_19 : decode cX12_loads 19 = .ok (.bipush 9, 2) := by decide +kernel
theorem dX12_loads_21 : decode cX12_loads 21 = .ok (.iconst 5, 1) := by decide +kernel
theorem dX12_loads_22 : decode cX12_loads 22 = .ok (.invokevirtual 121, 3) := by decide +kernel
theorem dX12_loads_25 : decode cX12_loads 25 = .ok (.istore_n 3, 1) := by decide +kernel
theorem dX12_loads_26 : decode cX12_loads 26 = .ok (.iload_n 1, 1) := by decide +kernel
theorem dX12_loads_27 : decode cX12_loads 27 = .ok (.iconst 3, 1) := by decide +kernel
theorem dX12_loads_28 : decode cX12_loads 28 = .ok (.if_icmp .ne 8, 3) := by decide +kernel
theorem dX12_loads_31 : decode cX12_loads 31 = .ok (.iload_n 2, 1) := by decide +kernel
theorem dX12_loads_32 : decode cX12_loads 32 = .ok (.iconst 1, 1) := by decide +kernel
theorem dX12_loads_33 : decode cX12_loads 33 = .ok (.if_icmp .gt 17, 3) := by decide +kernel
theorem dX12_loads_36 : decode cX12_loads 36 = .ok (.iload_n 1, 1) := by decide +kernel
theorem dX12_loads_37 : decode cX12_loads 37 = .ok (.iconst 2, 1) := by decide +kernel
theorem dX12_loads_38 : decode cX12_loads 38 = .ok (.if_icmp .ne 8, 3) := by decide +kernel
theorem dX12_loads_41 : decode cX12_loads 41 = .ok (.iload_n 2, 1) := by decide +kernel
theorem dX12_loads_42 : decode cX12_loads 42 = .ok (.iconst 3, 1) := by decide +kernel
theorem dX12_loads_43 : decode cX12_loads 43 = .ok (.if_icmp .eq 7, 3) := by decide +kernel
theorem dX12_loads_46 : decode cX12_loads 46 = .ok (.iconst 1, 1) := by decide +kernel
theorem dX12_loads_47 : decode cX12_loads 47 = .ok (.goto 4, 3) := by decide +kernel
theorem dX12_loads_50 : decode cX12_loads 50 = .ok (.iconst 0, 1) := by decide +kernel
theorem dX12_loads_51 : decode cX12_loads 51 = .ok (.istore 4, 2) := by decide +kernel
theorem dX12_loads_53 : decode cX12_loads 53 = .ok (.aload_n 0, 1) := by decide +kernel
theorem dX12_loads_54 : decode cX12_loads 54 = .ok (.bipush 24, 2) := by decide +kernel
theorem dX12_loads_56 : decode cX12_loads 56 = .ok (.invokevirtual 118, 3) := by decide +kernel
theorem dX12_loads_59 : decode cX12_loads 59 = .ok (.istore 5, 2) := by decide +kernel
theorem dX12_loads_61 : decode cX12_loads 61 = .ok (.iload 5, 2) := by decide +kernel
theorem dX12_loads_63 : decode cX12_loads 63 = .ok (.ifCond .ne 16, 3) := by decide +kernel
theorem dX12_loads_66 : decode cX12_loads 66 = .ok (.aload_n 0, 1) := by decide +kernel
theorem dX12_loads_67 : decode cX12_loads 67 = .ok (.bipush 21, 2) := by decide +kernel
theorem dX12_loads_69 : decode cX12_loads 69 = .ok (.invokevirtual 118, 3) := by decide +kernel
theorem dX12_loads_72 : decode cX12_loads 72 = .ok (.ifCond .eq 7, 3) := by decide +kernel
theorem dX12_loads_75 : decode cX12_loads 75 = .ok (.iconst 1, 1) := by decide +kernel
theorem dX12_loads_76 : decode cX12_loads 76 = .ok (.goto 4, 3) := by decide +kernel
theorem dX12_loads_79 : decode cX12_loads 79 = .ok (.iconst 0, 1) := by decide +kernel
theorem dX12_loads_80 : decode cX12_loads 80 = .ok (.istore 6, 2) := by decide +kernel
theorem dX12_loads_82 : decode cX12_loads 82 = .ok (.aload_n 0, 1) := by decide +kernel
theorem dX12_loads_83 : decode cX12_loads 83 = .ok (.bipush 15, 2) := by decide +kernel
theorem dX12_loads_85 : decode cX12_loads 85 = .ok (.bipush 13, 2) := by decide +kernel
theorem dX12_loads_87 : decode cX12_loads 87 = .ok (.invokevirtual 121, 3) := by decide +kernel
theorem dX12_loads_90 : decode cX12_loads 90 = .ok (.istore 7, 2) := by decide +kernel
theorem dX12_loads_92 : decode cX12_loads 92 = .ok (.iload 5, 2) := by decide +kernel
theorem dX12_loads_94 : decode cX12_loads 94 = .ok (.ifCond .ne 23, 3) := by decide +kernel
theorem dX12_loads_97 : decode cX12_loads 97 = .ok (.iload 6, 2) := by decide +kernel
theorem dX12_loads_99 : decode cX12_loads 99 = .ok (.ifCond .ne 18, 3) := by decide +kernel
theorem dX12_loads_102 : decode cX12_loads 102 = .ok (.aload_n 0, 1) := by decide +kernel
theorem dX12_loads_103 : decode cX12_loads 103 = .ok (.bipush 11, 2) := by decide +kernel
theorem dX12_loads_105 : decode cX12_loads 105 = .ok (.bipush 10, 2) := by decide +kernel
theorem dX12_loads_107 : decode cX12_loads 107 = .ok (.invokevirtual 121, 3) := by decide +kernel
theorem dX12_loads_110 : decode cX12_loads 110 = .ok (.iconst 2, 1) := by decide +kernel
theorem dX12_loads_111 : decode cX12_loads 111 = .ok (.if_icmp .ne 6, 3) := by decide +kernel
theorem dX12_loads_114 : decode cX12_loads 114 = .ok (.iconst 0, 1) := by decide +kernel
theorem dX12_loads_115 : decode cX12_loads 115 = .ok (.istore 4, 2) := by decide +kernel
theorem dX12_loads_117 : decode cX12_loads 117 = .ok (.iload 6, 2) := by decide +kernel
theorem dX12_loads_119 : decode cX12_loads 119 = .ok (.ifCond .eq 25, 3) := by decide +kernel
theorem dX12_loads_122 : decode cX12_loads 122 = .ok (.aload_n 0, 1) := by decide +kernel
theorem dX12_loads_123 : decode cX12_loads 123 = .ok (.bipush 11, 2) := by decide +kernel
theorem dX12_loads_125 : decode cX12_loads 125 = .ok (.bipush 10, 2) := by decide +kernel
theorem dX12_loads_127 : decode cX12_loads 127 = .ok (.invokevirtual 121, 3) := by decide +kernel
theorem dX12_loads_130 : decode cX12_loads 130 = .ok (.iconst 2, 1) := by decide +kernel
theorem dX12_loads_131 : decode cX12_loads 131 = .ok (.if_icmp .ne 10, 3) := by decide +kernel
theorem dX12_loads_134 : decode cX12_loads 134 = .ok (.iload 7, 2) := by decide +kernel
theorem dX12_loads_136 : decode cX12_loads 136 = .ok (.iconst 2, 1) := by decide +kernel
theorem dX12_loads_137 : decode cX12_loads 137 = .ok (.iand, 1) := by decide +kernel
theorem dX12_loads_138 : decode cX12_loads 138 = .ok (.ifCond .ne 6, 3) := by decide +kernel
theorem dX12_loads_141 : decode cX12_loads 141 = .ok (.iconst 0, 1) := by decide +kernel
theorem dX12_loads_142 : decode cX12_loads 142 = .ok (.istore 4, 2) := by decide +kernel
theorem dX12_loads_144 : decode cX12_loads 144 = .ok (.iload 4, 2) := by decide +kernel
theorem dX12_loads_146 : decode cX12_loads 146 = .ok (.ifCond .ne 8, 3) := by decide +kernel
theorem dX12_loads_149 : decode cX12_loads 149 = .ok (.aload_n 0, 1) := by decide +kernel
theorem dX12_loads_150 : decode cX12_loads 150 = .ok (.invokevirtual 158, 3) := by decide +kernel
theorem dX12_loads_153 : decode cX12_loads 153 = .ok (.return_, 1) := by decide +kernel
theorem dX12_loads_154 : decode cX12_loads 154 = .ok (.aload_n 0, 1) := by decide +kernel
theorem dX12_loads_155 : decode cX12_loads 155 = .ok (.iload_n 3, 1) := by decide +kernel
theorem dX12_loads_156 : decode cX12_loads 156 = .ok (.invokevirtual 217, 3) := by decide +kernel
theorem dX12_loads_159 : decode cX12_loads 159 = .ok (.ifCond .ne 4, 3) := by decide +kernel
theorem dX12_loads_162 : decode cX12_loads 162 = .ok (.return_, 1) := by decide +kernel
theorem dX12_loads_163 : decode cX12_loads 163 = .ok (.aload_n 0, 1) := by decide +kernel
theorem dX12_loads_164 : decode cX12_loads 164 = .ok (.iload_n 3, 1) := by decide +kernel
theorem dX12_loads_165 : decode cX12_loads 165 = .ok (.invokevirtual 134, 3) := by decide +kernel
theorem dX12_loads_168 : decode cX12_loads 168 = .ok (.lstore 8, 2) := by decide +kernel
theorem dX12_loads_170 : decode cX12_loads 170 = .ok (.iload 5, 2) := by decide +kernel
theorem dX12_loads_172 : decode cX12_loads 172 = .ok (.ifCond .eq 28, 3) := by decide +kernel
theorem dX12_loads_175 : decode cX12_loads 175 = .ok (.aload_n 0, 1) := by decide +kernel
theorem dX12_loads_176 : decode cX12_loads 176 = .ok (.iload_n 1, 1) := by decide +kernel
theorem dX12_loads_177 : decode cX12_loads 177 = .ok (.iload_n 2, 1) := by decide +kernel
theorem dX12_loads_178 : decode cX12_loads 178 = .ok (.lload 8, 2) := by decide +kernel
theorem dX12_loads_180 : decode cX12_loads 180 = .ok (.aload_n 0, 1) := by decide +kernel
theorem dX12_loads_181 : decode cX12_loads 181 = .ok (.bipush 21, 2) := by decide +kernel
theorem dX12_loads_183 : decode cX12_loads 183 = .ok (.bipush 10, 2) := by decide +kernel
theorem dX12_loads_185 : decode cX12_loads 185 = .ok (.invokevirtual 121, 3) := by decide +kernel
theorem dX12_loads_188 : decode cX12_loads 188 = .ok (.i2l, 1) := by decide +kernel
theorem dX12_loads_189 : decode cX12_loads 189 = .ok (.iload_n 1, 1) := by decide +kernel
theorem dX12_loads_190 : decode cX12_loads 190 = .ok (.lshl, 1) := by decide +kernel
theorem dX12_loads_191 : decode cX12_loads 191 = .ok (.ladd, 1) := by decide +kernel
theorem dX12_loads_192 : decode cX12_loads 192 = .ok (.iconst 0, 1) := by decide +kernel
theorem dX12_loads_193 : decode cX12_loads 193 = .ok (.lconst 0, 1) := by decide +kernel
theorem dX12_loads_194 : decode cX12_loads 194 = .ok (.invokevirtual 220, 3) := by decide +kernel
theorem dX12_loads_197 : decode cX12_loads 197 = .ok (.goto 145, 3) := by decide +kernel
theorem dX12_loads_200 : decode cX12_loads 200 = .ok (.iload 6, 2) := by decide +kernel
theorem dX12_loads_202 : decode cX12_loads 202 = .ok (.ifCond .eq 80, 3) := by decide +kernel
theorem dX12_loads_205 : decode cX12_loads 205 = .ok (.aload_n 0, 1) := by decide +kernel
theorem dX12_loads_206 : decode cX12_loads 206 = .ok (.aload_n 0, 1) := by decide +kernel
theorem dX12_loads_207 : decode cX12_loads 207 = .ok (.bipush 20, 2) := by decide +kernel
theorem dX12_loads_209 : decode cX12_loads 209 = .ok (.bipush 16, 2) := by decide +kernel
theorem dX12_loads_211 : decode cX12_loads 211 = .ok (.invokevirtual 121, 3) := by decide +kernel
theorem dX12_loads_214 : decode cX12_loads 214 = .ok (.invokevirtual 161, 3) := by decide +kernel
theorem dX12_loads_217 : decode cX12_loads 217 = .ok (.lstore 10, 2) := by decide +kernel
theorem dX12_loads_219 : decode cX12_loads 219 = .ok (.iload 7, 2) := by decide +kernel
theorem dX12_loads_221 : decode cX12_loads 221 = .ok (.iconst 1, 1) := by decide +kernel
theorem dX12_loads_222 : decode cX12_loads 222 = .ok (.iand, 1) := by decide +kernel
theorem dX12_loads_223 : decode cX12_loads 223 = .ok (.ifCond .ne 12, 3) := by decide +kernel
theorem dX12_loads_226 : decode cX12_loads 226 = .ok (.lload 10, 2) := by decide +kernel
theorem dX12_loads_228 : decode cX12_loads 228 = .ok (.bipush 32, 2) := by decide +kernel
theorem dX12_loads_230 : decode cX12_loads 230 = .ok (.invokestatic 138, 3) := by decide +kernel
theorem dX12_loads_233 : decode cX12_loads 233 = .ok (.lstore 10, 2) := by decide +kernel
theorem dX12_loads_235 : decode cX12_loads 235 = .ok (.iload 7, 2) := by decide +kernel
theorem dX12_loads_237 : decode cX12_loads 237 = .ok (.bipush 6, 2) := by decide +kernel
theorem dX12_loads_239 : decode cX12_loads 239 = .ok (.if_icmp .ne 12, 3) := by decide +kernel
theorem dX12_loads_242 : decode cX12_loads 242 = .ok (.lload 10, 2) := by decide +kernel
theorem dX12_loads_244 : decode cX12_loads 244 = .ok (.bipush 32, 2) := by decide +kernel
theorem dX12_loads_246 : decode cX12_loads 246 = .ok (.invokestatic 125, 3) := by decide +kernel
theorem dX12_loads_249 : decode cX12_loads 249 = .ok (.lstore 10, 2) := by decide +kernel
theorem dX12_loads_251 : decode cX12_loads 251 = .ok (.aload_n 0, 1) := by decide +kernel
theorem dX12_loads_252 : decode cX12_loads 252 = .ok (.bipush 12, 2) := by decide +kernel
theorem dX12_loads_254 : decode cX12_loads 254 = .ok (.invokevirtual 118, 3) := by decide +kernel
theorem dX12_loads_257 : decode cX12_loads 257 = .ok (.ifCond .eq 9, 3) := by decide +kernel
theorem dX12_loads_260 : decode cX12_loads 260 = .ok (.lload 10, 2) := by decide +kernel
theorem dX12_loads_262 : decode cX12_loads 262 = .ok (.iload_n 1, 1) := by decide +kernel
theorem dX12_loads_263 : decode cX12_loads 263 = .ok (.lshl, 1) := by decide +kernel
theorem dX12_loads_264 : decode cX12_loads 264 = .ok (.lstore 10, 2) := by decide +kernel
theorem dX12_loads_266 : decode cX12_loads 266 = .ok (.aload_n 0, 1) := by decide +kernel
theorem dX12_loads_267 : decode cX12_loads 267 = .ok (.iload_n 1, 1) := by decide +kernel
theorem dX12_loads_268 : decode cX12_loads 268 = .ok (.iload_n 2, 1) := by decide +kernel
theorem dX12_loads_269 : decode cX12_loads 269 = .ok (.lload 8, 2) := by decide +kernel
theorem dX12_loads_271 : decode cX12_loads 271 = .ok (.lload 10, 2) := by decide +kernel
theorem dX12_loads_273 : decode cX12_loads 273 = .ok (.ladd, 1) := by decide +kernel
theorem dX12_loads_274 : decode cX12_loads 274 = .ok (.iconst 0, 1) := by decide +kernel
theorem dX12_loads_275 : decode cX12_loads 275 = .ok (.lconst 0, 1) := by decide +kernel
theorem dX12_loads_276 : decode cX12_loads 276 = .ok (.invokevirtual 220, 3) := by decide +kernel
theorem dX12_loads_279 : decode cX12_loads 279 = .ok (.goto 63, 3) := by decide +kernel
theorem dX12_loads_282 : decode cX12_loads 282 = .ok (.aload_n 0, 1) := by decide +kernel
theorem dX12_loads_283 : decode cX12_loads 283 = .ok (.bipush 20, 2) := by decide +kernel
theorem dX12_loads_285 : decode cX12_loads 285 = .ok (.bipush 12, 2) := by decide +kernel
theorem dX12_loads_287 : decode cX12_loads 287 = .ok (.invokevirtual 191, 3) := by decide +kernel
theorem dX12_loads_290 : decode cX12_loads 290 = .ok (.lstore 10, 2) := by decide +kernel
theorem dX12_loads_292 : decode cX12_loads 292 = .ok (.aload_n 0, 1) := by decide +kernel
theorem dX12_loads_293 : decode cX12_loads 293 = .ok (.bipush 11, 2) := by decide +kernel
theorem dX12_loads_295 : decode cX12_loads 295 = .ok (.bipush 10, 2) := by decide +kernel
theorem dX12_loads_297 : decode cX12_loads 297 = .ok (.invokevirtual 121, 3) := by decide +kernel
theorem dX12_loads_300 : decode cX12_loads 300 = .ok (.istore 12, 2) := by decide +kernel
theorem dX12_loads_302 : decode cX12_loads 302 = .ok (.lload 8, 2) := by decide +kernel
theorem dX12_loads_304 : decode cX12_loads 304 = .ok (.lstore 13, 2) := by decide +kernel
theorem dX12_loads_306 : decode cX12_loads 306 = .ok (.iload 12, 2) := by decide +kernel
theorem dX12_loads_308 : decode cX12_loads 308 = .ok (.iconst 1, 1) := by decide +kernel
theorem dX12_loads_309 : decode cX12_loads 309 = .ok (.if_icmp .eq 10, 3) := by decide +kernel
theorem dX12_loads_312 : decode cX12_loads 312 = .ok (.lload 8, 2) := by decide +kernel
theorem dX12_loads_314 : decode cX12_loads 314 = .ok (.lload 10, 2) := by decide +kernel
theorem dX12_loads_316 : decode cX12_loads 316 = .ok (.ladd, 1) := by decide +kernel
theorem dX12_loads_317 : decode cX12_loads 317 = .ok (.lstore 13, 2) := by decide +kernel
theorem dX12_loads_319 : decode cX12_loads 319 = .ok (.aload_n 0, 1) := by decide +kernel
theorem dX12_loads_320 : decode cX12_loads 320 = .ok (.iload_n 1, 1) := by decide +kernel
theorem dX12_loads_321 : decode cX12_loads 321 = .ok (.iload_n 2, 1) := by decide +kernel
theorem dX12_loads_322 : decode cX12_loads 322 = .ok (.lload 13, 2) := by decide +kernel
theorem dX12_loads_324 : decode cX12_loads 324 = .ok (.iload 12, 2) := by decide +kernel
theorem dX12_loads_326 : decode cX12_loads 326 = .ok (.ifCond .eq 7, 3) := by decide +kernel
theorem dX12_loads_329 : decode cX12_loads 329 = .ok (.iconst 1, 1) := by decide +kernel
theorem dX12_loads_330 : decode cX12_loads 330 = .ok (.goto 4, 3) := by decide +kernel
theorem dX12_loads_333 : decode cX12_loads 333 = .ok (.iconst 0, 1) := by decide +kernel
theorem dX12_loads_334 : decode cX12_loads 334 = .ok (.lload 8, 2) := by decide +kernel
theorem dX12_loads_336 : decode cX12_loads 336 = .ok (.lload 10, 2) := by decide +kernel
theorem dX12_loads_338 : decode cX12_loads 338 = .ok (.ladd, 1) := by decide +kernel
theorem dX12_loads_339 : decode cX12_loads 339 = .ok (.invokevirtual 220, 3) := by decide +kernel
theorem dX12_loads_342 : decode cX12_loads 342 = .ok (.return_, 1) := by decide +kernel
def F_X12_loads_c334 (τ : MS) (w8 : Int64) (w10 : Int64) (s1 : Int32) (s2 : Int32) (s3 : Int64) (s4 : Bool) : Option (MS) := ((F_X12_single τ s1 s2 s3 s4 (w8 + w10)).bind fun v9 => some (v9))
def F_X12_loads_c319 (τ : MS) (w1 : Int32) (w2 : Int32) (w8 : Int64) (w10 : Int64) (w12 : Int32) (w13 : Int64) : Option (MS) := (if w12 = 0 then (F_X12_loads_c334 τ w8 w10 w1 w2 w13 false) else (F_X12_loads_c334 τ w8 w10 w1 w2 w13 true))
def F_X12_loads_c266 (τ : MS) (w1 : Int32) (w2 : Int32) (w8 : Int64) (w10 : Int64) : Option (MS) := ((F_X12_single τ w1 w2 (w8 + w10) false (0 : Int64)).bind fun v12 => some (v12))
def F_X12_loads_c251 (τ : MS) (w1 : Int32) (w2 : Int32) (w8 : Int64) (w10 : Int64) : Option (MS) := (if (F_X12_on τ (12 : Int32)) = true then (F_X12_loads_c266 τ w1 w2 w8 (j_lshl w10 w1)) else (F_X12_loads_c266 τ w1 w2 w8 w10))
def F_X12_loads_c235 (τ : MS) (w1 : Int32) (w2 : Int32) (w7 : Int32) (w8 : Int64) (w10 : Int64) : Option (MS) := (if w7 = (6 : Int32) then ((F_X12_extend w10 (32 : Int32)).bind fun v13 => (F_X12_loads_c251 τ w1 w2 w8 v13)) else (F_X12_loads_c251 τ w1 w2 w8 w10))
def F_X12_loads_c144 (τ : MS) (w1 : Int32) (w2 : Int32) (w3 : Int32) (w4 : Bool) (w5 : Bool) (w6 : Bool) (w7 : Int32) : Option (MS) := (if w4 = true then ((F_X12_baseStands τ w3).bind fun v5 => (if v5.1 = true then ((F_X12_regOrPointer v5.2 w3).bind fun v6 => (if w5 = true then ((F_X12_f v5.2 (21 : Int32) (10 : Int32)).bind fun v14 => ((F_X12_single v5.2 w1 w2 (v6 + (j_lshl v14.toInt64 w1)) false (0 : Int64)).bind fun v15 => some (v15))) else (if w6 = true then ((F_X12_f v5.2 (20 : Int32) (16 : Int32)).bind fun v10 => ((F_X12_reg v5.2 v10).bind fun v11 => (if (w7 &&& (1 : Int32)) = 0 then (F_X12_loads_c235 v5.2 w1 w2 w7 v6 (F_X12_cut v11 (32 : Int32))) else (F_X12_loads_c235 v5.2 w1 w2 w7 v6 v11)))) else ((F_X12_signed v5.2 (20 : Int32) (12 : Int32)).bind fun v7 => ((F_X12_f v5.2 (11 : Int32) (10 : Int32)).bind fun v8 => (if v8 = (1 : Int32) then (F_X12_loads_c319 v5.2 w1 w2 v6 v7 v8 v6) else (F_X12_loads_c319 v5.2 w1 w2 v6 v7 v8 (v6 + v7)))))))) else some (v5.2))) else some ((F_X12_none τ)))
def F_X12_loads_c141 (τ : MS) (w1 : Int32) (w2 : Int32) (w3 : Int32) (w5 : Bool) (w6 : Bool) (w7 : Int32) : Option (MS) := (F_X12_loads_c144 τ w1 w2 w3 false w5 w6 w7)
def F_X12_loads_c117 (τ : MS) (w1 : Int32) (w2 : Int32) (w3 : Int32) (w4 : Bool) (w5 : Bool) (w6 : Bool) (w7 : Int32) : Option (MS) := (if w6 = true then ((F_X12_f τ (11 : Int32) (10 : Int32)).bind fun v16 => (if v16 = (2 : Int32) then (if (w7 &&& (2 : Int32)) = 0 then (F_X12_loads_c141 τ w1 w2 w3 w5 w6 w7) else (F_X12_loads_c144 τ w1 w2 w3 w4 w5 w6 w7)) else (F_X12_loads_c141 τ w1 w2 w3 w5 w6 w7))) else (F_X12_loads_c144 τ w1 w2 w3 w4 w5 w6 w7))
def F_X12_loads_c80 (τ : MS) (w1 : Int32) (w2 : Int32) (w3 : Int32) (w4 : Bool) (w5 : Bool) (s0 : Bool) : Option (MS) := ((F_X12_f τ (15 : Int32) (13 : Int32)).bind fun v4 => (if w5 = true then (F_X12_loads_c117 τ w1 w2 w3 w4 w5 s0 v4) else (if s0 = true then (F_X12_loads_c117 τ w1 w2 w3 w4 w5 s0 v4) else ((F_X12_f τ (11 : Int32) (10 : Int32)).bind fun v17 => (if v17 = (2 : Int32) then (F_X12_loads_c117 τ w1 w2 w3 false w5 s0 v4) else (F_X12_loads_c117 τ w1 w2 w3 w4 w5 s0 v4))))))
def F_X12_loads_c79 (τ : MS) (w1 : Int32) (w2 : Int32) (w3 : Int32) (w4 : Bool) (w5 : Bool) : Option (MS) := (F_X12_loads_c80 τ w1 w2 w3 w4 w5 false)
def F_X12_loads_c61 (τ : MS) (w1 : Int32) (w2 : Int32) (w3 : Int32) (w4 : Bool) (w5 : Bool) : Option (MS) := (if w5 = true then (F_X12_loads_c79 τ w1 w2 w3 w4 w5) else (if (F_X12_on τ (21 : Int32)) = true then (F_X12_loads_c80 τ w1 w2 w3 w4 w5 true) else (F_X12_loads_c79 τ w1 w2 w3 w4 w5)))
def F_X12_loads_c51 (τ : MS) (w1 : Int32) (w2 : Int32) (w3 : Int32) (s0 : Bool) : Option (MS) := (F_X12_loads_c61 τ w1 w2 w3 s0 (F_X12_on τ (24 : Int32)))
def F_X12_loads_c46 (τ : MS) (w1 : Int32) (w2 : Int32) (w3 : Int32) : Option (MS) := (F_X12_loads_c51 τ w1 w2 w3 true)
def F_X12_loads_c50 (τ : MS) (w1 : Int32) (w2 : Int32) (w3 : Int32) : Option (MS) := (F_X12_loads_c51 τ w1 w2 w3 false)
def F_X12_loads_c36 (τ : MS) (w1 : Int32) (w2 : Int32) (w3 : Int32) : Option (MS) := (if w1 = (2 : Int32) then (if w2 = (3 : Int32) then (F_X12_loads_c50 τ w1 w2 w3) else (F_X12_loads_c46 τ w1 w2 w3)) else (F_X12_loads_c46 τ w1 w2 w3))
def F_X12_loads (σ : MS)  : Option (MS) := ((F_X12_f σ (31 : Int32) (30 : Int32)).bind fun v1 => ((F_X12_f σ (23 : Int32) (22 : Int32)).bind fun v2 => ((F_X12_f σ (9 : Int32) (5 : Int32)).bind fun v3 => (if v1 = (3 : Int32) then (if (1 : Int32) < v2 then (F_X12_loads_c50 σ v1 v2 v3) else (F_X12_loads_c36 σ v1 v2 v3)) else (F_X12_loads_c36 σ v1 v2 v3)))))
set_option maxHeartbeats 4000000 in
set_option maxRecDepth 100000 in
theorem c_X12_loads (l : Launch) (z : Cx) (r : Nat → Nat) (σ : MS) (sz : Nat) (res : MS) (hf : F_X12_loads σ = some res) : Met l yX12_loads (wsC yX12_loads cX12_loads 15 none) { frames := 5, cells := 0, slots := 0, locals := 136 } (mPc z (mW z r σ) sz [.ref (r 0)]) (gM z (va_A (mW z r σ) sz) none (mW z r res)) 0 0 (va_A (mW z r σ) sz) := by
  refine mk_m_v (own := RX12) (wf := mW z r) (by decide) rfl sz _ (Nat.le_of_ble_eq_true rfl) (fun p e s m below meth c A H locs Q ls S hK hA hP hD hS hl hend => ?_)
  have hx := S.1
  have hb := S.2.1
  have hown := S.2.2.2.1
  have hts := S.2.2.2.2
  have hl : lv_has ls 15 [(0, .ref (r 0))] := hl
  have J_c334 : ∀ (τ : MS) (w8 : Int64) (w10 : Int64) (s1 : Int32) (s2 : Int32) (s3 : Int64) (s4 : Bool) (H : Heap) (locs : List Loc) (ls : Array Slot), F_X12_loads_c334 τ w8 w10 s1 s2 s3 s4 = some res → va_P z.1 vwCl (mW z r τ) H → va_D A (mW z r τ) → va_S A s.heap H locs → lv_has ls 15 [(8, .long w8), (10, .long w10)] → W p l e { frames := 5, cells := 0, slots := 0, locals := 136 } s m ([.ref (r 0)] : List Value).toArray below meth c H locs 0 0 Q (F0 m 334 ls [.int (zB s4), .long s3, .int s2, .int s1, .ref (r 0)]) := by
    intro τ w8 w10 s1 s2 s3 s4 H locs ls hf hP hD hS hl
    unfold F_X12_loads_c334 at hf
    refine lv_lload hx hb dX12_loads_334 (lv_at hl 0 rfl) ?_
    refine lv_lload hx hb dX12_loads_336 (lv_at hl 1 rfl) ?_
    refine lv_ladd hx hb dX12_loads_338 ?_
    obtain ⟨v9, e_v9, hf⟩ := Option.bind_eq_some_iff.mp hf
    refine k_X12_single (a0 := s1) (a1 := s2) (a2 := s3) (a3 := s4) (a4 := (w8 + w10)) (res := v9) (hres := e_v9) S hK hA hP hD hS tl_X12_220 ⟨Nat.le_of_ble_eq_true rfl, Nat.le_of_ble_eq_true rfl⟩ hl.1 (Nat.le_of_ble_eq_true rfl) dX12_loads_339 (fun H locs hP hD hS => ?_)
    exact hend v9 H locs 342 ls (Option.some.inj hf) hP hD hS dX12_loads_342
  have J_c319 : ∀ (τ : MS) (w1 : Int32) (w2 : Int32) (w8 : Int64) (w10 : Int64) (w12 : Int32) (w13 : Int64) (H : Heap) (locs : List Loc) (ls : Array Slot), F_X12_loads_c319 τ w1 w2 w8 w10 w12 w13 = some res → va_P z.1 vwCl (mW z r τ) H → va_D A (mW z r τ) → va_S A s.heap H locs → lv_has ls 15 [(0, .ref (r 0)), (1, .int w1), (2, .int w2), (8, .long w8), (10, .long w10), (12, .int w12), (13, .long w13)] → W p l e { frames := 5, cells := 0, slots := 0, locals := 136 } s m ([.ref (r 0)] : List Value).toArray below meth c H locs 0 0 Q (F0 m 319 ls []) := by
    intro τ w1 w2 w8 w10 w12 w13 H locs ls hf hP hD hS hl
    unfold F_X12_loads_c319 at hf
    refine lv_aload_n hx hb dX12_loads_319 rfl (lv_at hl 0 rfl) ?_
    refine lv_iload_n hx hb dX12_loads_320 rfl (lv_at hl 1 rfl) ?_
    refine lv_iload_n hx hb dX12_loads_321 rfl (lv_at hl 2 rfl) ?_
    refine lv_lload hx hb dX12_loads_322 (lv_at hl 6 rfl) ?_
    refine lv_iload hx hb dX12_loads_324 (lv_at hl 5 rfl) ?_
    refine lv_if_eq (tgt := 333) hx hb dX12_loads_326 (by decide) (fun c_326 => ?_) (fun c_326 => ?_)
    · rw [if_pos c_326] at hf
      refine lv_iconst (v := 0) hx hb dX12_loads_333 (by decide) ?_
      exact J_c334 τ w8 w10 w1 w2 w13 false H locs ls hf hP hD hS (lv_sub hl [3, 4] rfl)
    · rw [if_neg c_326] at hf
      refine lv_iconst (v := 1) hx hb dX12_loads_329 (by decide) ?_
      refine lv_goto (tgt := 334) hx hb dX12_loads_330 (by decide) ?_
      exact J_c334 τ w8 w10 w1 w2 w13 true H locs ls hf hP hD hS (lv_sub hl [3, 4] rfl)
  have J_c266 : ∀ (τ : MS) (w1 : Int32) (w2 : Int32) (w8 : Int64) (w10 : Int64) (H : Heap) (locs : List Loc) (ls : Array Slot), F_X12_loads_c266 τ w1 w2 w8 w10 = some res → va_P z.1 vwCl (mW z r τ) H → va_D A (mW z r τ) → va_S A s.heap H locs → lv_has ls 15 [(0, .ref (r 0)), (1, .int w1), (2, .int w2), (8, .long w8), (10, .long w10)] → W p l e { frames := 5, cells := 0, slots := 0, locals := 136 } s m ([.ref (r 0)] : List Value).toArray below meth c H locs 0 0 Q (F0 m 266 ls []) := by
    intro τ w1 w2 w8 w10 H locs ls hf hP hD hS hl
    unfold F_X12_loads_c266 at hf
    refine lv_aload_n hx hb dX12_loads_266 rfl (lv_at hl 0 rfl) ?_
    refine lv_iload_n hx hb dX12_loads_267 rfl (lv_at hl 1 rfl) ?_
    refine lv_iload_n hx hb dX12_loads_268 rfl (lv_at hl 2 rfl) ?_
    refine lv_lload hx hb dX12_loads_269 (lv_at hl 3 rfl) ?_
    refine lv_lload hx hb dX12_loads_271 (lv_at hl 4 rfl) ?_
    refine lv_ladd hx hb dX12_loads_273 ?_
    refine lv_iconst (v := 0) hx hb dX12_loads_274 (by decide) ?_
    refine lv_lconst (v := 0) hx hb dX12_loads_275 (by decide) ?_
    obtain ⟨v12, e_v12, hf⟩ := Option.bind_eq_some_iff.mp hf
    refine k_X12_single (a0 := w1) (a1 := w2) (a2 := (w8 + w10)) (a3 := false) (a4 := (0 : Int64)) (res := v12) (hres := e_v12) S hK hA hP hD hS tl_X12_220 ⟨Nat.le_of_ble_eq_true rfl, Nat.le_of_ble_eq_true rfl⟩ hl.1 (Nat.le_of_ble_eq_true rfl) dX12_loads_276 (fun H locs hP hD hS => ?_)
    refine lv_goto (tgt := 342) hx hb dX12_loads_279 (by decide) ?_
    exact hend v12 H locs 342 ls (Option.some.inj hf) hP hD hS dX12_loads_342
  have J_c251 : ∀ (τ : MS) (w1 : Int32) (w2 : Int32) (w8 : Int64) (w10 : Int64) (H : Heap) (locs : List Loc) (ls : Array Slot), F_X12_loads_c251 τ w1 w2 w8 w10 = some res → va_P z.1 vwCl (mW z r τ) H → va_D A (mW z r τ) → va_S A s.heap H locs → lv_has ls 15 [(0, .ref (r 0)), (1, .int w1), (2, .int w2), (8, .long w8), (10, .long w10)] → W p l e { frames := 5, cells := 0, slots := 0, locals := 136 } s m ([.ref (r 0)] : List Value).toArray below meth c H locs 0 0 Q (F0 m 251 ls []) := by
    intro τ w1 w2 w8 w10 H locs ls hf hP hD hS hl
    unfold F_X12_loads_c251 at hf
    refine lv_aload_n hx hb dX12_loads_251 rfl (lv_at hl 0 rfl) ?_
    refine lv_bipush (v := 12) hx hb dX12_loads_252 (by decide) ?_
    refine k_X12_on (a0 := (12 : Int32)) S hK hP tl_X12_118 ⟨Nat.le_of_ble_eq_true rfl, Nat.le_of_ble_eq_true rfl⟩ hl.1 (Nat.le_of_ble_eq_true rfl) dX12_loads_254 ?_
    refine gz_eq (tgt := 266) hx hb dX12_loads_257 (by decide) (fun c_257 => ?_) (fun c_257 => ?_)
    · rw [if_neg c_257] at hf
      exact J_c266 τ w1 w2 w8 w10 H locs ls hf hP hD hS (lv_sub hl [0, 1, 2, 3, 4] rfl)
    · rw [if_pos c_257] at hf
      refine lv_lload hx hb dX12_loads_260 (lv_at hl 4 rfl) ?_
      refine lv_iload_n hx hb dX12_loads_262 rfl (lv_at hl 1 rfl) ?_
      refine lv_lshl (v := (j_lshl w10 w1)) hx hb dX12_loads_263 rfl ?_
      refine lv_lstore (lv' := [(10, .long (j_lshl w10 w1)), (0, .ref (r 0)), (1, .int w1), (2, .int w2), (8, .long w8)]) hx hb dX12_loads_264 hl (by decide) rfl (fun ls hl => ?_)
      exact J_c266 τ w1 w2 w8 (j_lshl w10 w1) H locs ls hf hP hD hS (lv_sub hl [1, 2, 3, 4, 0] rfl)
  have J_c235 : ∀ (τ : MS) (w1 : Int32) (w2 : Int32) (w7 : Int32) (w8 : Int64) (w10 : Int64) (H : Heap) (locs : List Loc) (ls : Array Slot), F_X12_loads_c235 τ w1 w2 w7 w8 w10 = some res → va_P z.1 vwCl (mW z r τ) H → va_D A (mW z r τ) → va_S A s.heap H locs → lv_has ls 15 [(0, .ref (r 0)), (1, .int w1), (2, .int w2), (7, .int w7), (8, .long w8), (10, .long w10)] → W p l e { frames := 5, cells := 0, slots := 0, locals := 136 } s m ([.ref (r 0)] : List Value).toArray below meth c H locs 0 0 Q (F0 m 235 ls []) := by
    intro τ w1 w2 w7 w8 w10 H locs ls hf hP hD hS hl
    unfold F_X12_loads_c235 at hf
    refine lv_iload hx hb dX12_loads_235 (lv_at hl 3 rfl) ?_
    refine lv_bipush (v := 6) hx hb dX12_loads_237 (by decide) ?_
    refine lv_icmp_ne (tgt := 251) hx hb dX12_loads_239 (by decide) (fun c_239 => ?_) (fun c_239 => ?_)
    · rw [if_neg c_239] at hf
      exact J_c251 τ w1 w2 w8 w10 H locs ls hf hP hD hS (lv_sub hl [0, 1, 2, 4, 5] rfl)
    · rw [if_pos c_239] at hf
      refine lv_lload hx hb dX12_loads_242 (lv_at hl 5 rfl) ?_
      refine lv_bipush (v := 32) hx hb dX12_loads_244 (by decide) ?_
      obtain ⟨v13, e_v13, hf⟩ := Option.bind_eq_some_iff.mp hf
      refine k_X12_extend (a0 := w10) (a1 := (32 : Int32)) (res := v13) (hres := e_v13) S tl_X12_125 ⟨Nat.le_of_ble_eq_true rfl, Nat.le_of_ble_eq_true rfl⟩ hl.1 (Nat.le_of_ble_eq_true rfl) dX12_loads_246 ?_
      refine lv_lstore (lv' := [(10, .long v13), (0, .ref (r 0)), (1, .int w1), (2, .int w2), (7, .int w7), (8, .long w8)]) hx hb dX12_loads_249 hl (by decide) rfl (fun ls hl => ?_)
      exact J_c251 τ w1 w2 w8 v13 H locs ls hf hP hD hS (lv_sub hl [1, 2, 3, 5, 0] rfl)
  have J_c144 : ∀ (τ : MS) (w1 : Int32) (w2 : Int32) (w3 : Int32) (w4 : Bool) (w5 : Bool) (w6 : Bool) (w7 : Int32) (H : Heap) (locs : List Loc) (ls : Array Slot), F_X12_loads_c144 τ w1 w2 w3 w4 w5 w6 w7 = some res → va_P z.1 vwCl (mW z r τ) H → va_D A (mW z r τ) → va_S A s.heap H locs → lv_has ls 15 [(0, .ref (r 0)), (1, .int w1), (2, .int w2), (3, .int w3), (4, .int (zB w4)), (5, .int (zB w5)), (6, .int (zB w6)), (7, .int w7)] → W p l e { frames := 5, cells := 0, slots := 0, locals := 136 } s m ([.ref (r 0)] : List Value).toArray below meth c H locs 0 0 Q (F0 m 144 ls []) := by
    intro τ w1 w2 w3 w4 w5 w6 w7 H locs ls hf hP hD hS hl
    unfold F_X12_loads_c144 at hf
    refine lv_iload hx hb dX12_loads_144 (lv_at hl 4 rfl) ?_
    refine gz_ne (tgt := 154) hx hb dX12_loads_146 (by decide) (fun c_146 => ?_) (fun c_146 => ?_)
    · rw [if_pos c_146] at hf
      refine lv_aload_n hx hb dX12_loads_154 rfl (lv_at hl 0 rfl) ?_
      refine lv_iload_n hx hb dX12_loads_155 rfl (lv_at hl 3 rfl) ?_
      obtain ⟨v5, e_v5, hf⟩ := Option.bind_eq_some_iff.mp hf
      refine k_X12_baseStands (a0 := w3) (res := v5) (hres := e_v5) S hK hA hP hD hS tl_X12_217 ⟨Nat.le_of_ble_eq_true rfl, Nat.le_of_ble_eq_true rfl⟩ hl.1 (Nat.le_of_ble_eq_true rfl) dX12_loads_156 (fun H locs hP hD hS => ?_)
      refine gz_ne (tgt := 163) hx hb dX12_loads_159 (by decide) (fun c_159 => ?_) (fun c_159 => ?_)
      · rw [if_pos c_159] at hf
        refine lv_aload_n hx hb dX12_loads_163 rfl (lv_at hl 0 rfl) ?_
        refine lv_iload_n hx hb dX12_loads_164 rfl (lv_at hl 3 rfl) ?_
        obtain ⟨v6, e_v6, hf⟩ := Option.bind_eq_some_iff.mp hf
        refine k_X12_regOrPointer (a0 := w3) (res := v6) (hres := e_v6) S hK hP tl_X12_134 ⟨Nat.le_of_ble_eq_true rfl, Nat.le_of_ble_eq_true rfl⟩ hl.1 (Nat.le_of_ble_eq_true rfl) dX12_loads_165 ?_
        refine lv_lstore (lv' := [(8, .long v6), (0, .ref (r 0)), (1, .int w1), (2, .int w2), (3, .int w3), (4, .int (zB w4)), (5, .int (zB w5)), (6, .int (zB w6)), (7, .int w7)]) hx hb dX12_loads_168 hl (by decide) rfl (fun ls hl => ?_)
        refine lv_iload hx hb dX12_loads_170 (lv_at hl 6 rfl) ?_
        refine gz_eq (tgt := 200) hx hb dX12_loads_172 (by decide) (fun c_172 => ?_) (fun c_172 => ?_)
        · rw [if_neg c_172] at hf
          refine lv_iload hx hb dX12_loads_200 (lv_at hl 7 rfl) ?_
          refine gz_eq (tgt := 282) hx hb dX12_loads_202 (by decide) (fun c_202 => ?_) (fun c_202 => ?_)
          · rw [if_neg c_202] at hf
            refine lv_aload_n hx hb dX12_loads_282 rfl (lv_at hl 1 rfl) ?_
            refine lv_bipush (v := 20) hx hb dX12_loads_283 (by decide) ?_
            refine lv_bipush (v := 12) hx hb dX12_loads_285 (by decide) ?_
            obtain ⟨v7, e_v7, hf⟩ := Option.bind_eq_some_iff.mp hf
            refine k_X12_signed (a0 := (20 : Int32)) (a1 := (12 : Int32)) (res := v7) (hres := e_v7) S hK hP tl_X12_191 ⟨Nat.le_of_ble_eq_true rfl, Nat.le_of_ble_eq_true rfl⟩ hl.1 (Nat.le_of_ble_eq_true rfl) dX12_loads_287 ?_
            refine lv_lstore (lv' := [(10, .long v7), (8, .long v6), (0, .ref (r 0)), (1, .int w1), (2, .int w2), (3, .int w3), (4, .int (zB w4)), (5, .int (zB w5)), (6, .int (zB w6)), (7, .int w7)]) hx hb dX12_loads_290 hl (by decide) rfl (fun ls hl => ?_)
            refine lv_aload_n hx hb dX12_loads_292 rfl (lv_at hl 2 rfl) ?_
            refine lv_bipush (v := 11) hx hb dX12_loads_293 (by decide) ?_
            refine lv_bipush (v := 10) hx hb dX12_loads_295 (by decide) ?_
            obtain ⟨v8, e_v8, hf⟩ := Option.bind_eq_some_iff.mp hf
            refine k_X12_f (a0 := (11 : Int32)) (a1 := (10 : Int32)) (res := v8) (hres := e_v8) S hK hP tl_X12_121 ⟨Nat.le_of_ble_eq_true rfl, Nat.le_of_ble_eq_true rfl⟩ hl.1 (Nat.le_of_ble_eq_true rfl) dX12_loads_297 ?_
            refine lv_istore (lv' := [(12, .int v8), (10, .long v7), (8, .long v6), (0, .ref (r 0)), (1, .int w1), (2, .int w2), (3, .int w3), (4, .int (zB w4)), (5, .int (zB w5)), (6, .int (zB w6)), (7, .int w7)]) hx hb dX12_loads_300 hl (by decide) rfl (fun ls hl => ?_)
            refine lv_lload hx hb dX12_loads_302 (lv_at hl 2 rfl) ?_
            refine lv_lstore (lv' := [(13, .long v6), (12, .int v8), (10, .long v7), (8, .long v6), (0, .ref (r 0)), (1, .int w1), (2, .int w2), (3, .int w3), (4, .int (zB w4)), (5, .int (zB w5)), (6, .int (zB w6)), (7, .int w7)]) hx hb dX12_loads_304 hl (by decide) rfl (fun ls hl => ?_)
            refine lv_iload hx hb dX12_loads_306 (lv_at hl 1 rfl) ?_
            refine lv_iconst (v := 1) hx hb dX12_loads_308 (by decide) ?_
            refine lv_icmp_eq (tgt := 319) hx hb dX12_loads_309 (by decide) (fun c_309 => ?_) (fun c_309 => ?_)
            · rw [if_pos c_309] at hf
              exact J_c319 v5.2 w1 w2 v6 v7 v8 v6 H locs ls hf hP hD hS (lv_sub hl [4, 5, 6, 3, 2, 1, 0] rfl)
            · rw [if_neg c_309] at hf
              refine lv_lload hx hb dX12_loads_312 (lv_at hl 3 rfl) ?_
              refine lv_lload hx hb dX12_loads_314 (lv_at hl 2 rfl) ?_
              refine lv_ladd hx hb dX12_loads_316 ?_
              refine lv_lstore (lv' := [(13, .long (v6 + v7)), (12, .int v8), (10, .long v7), (8, .long v6), (0, .ref (r 0)), (1, .int w1), (2, .int w2), (3, .int w3), (4, .int (zB w4)), (5, .int (zB w5)), (6, .int (zB w6)), (7, .int w7)]) hx hb dX12_loads_317 hl (by decide) rfl (fun ls hl => ?_)
              exact J_c319 v5.2 w1 w2 v6 v7 v8 (v6 + v7) H locs ls hf hP hD hS (lv_sub hl [4, 5, 6, 3, 2, 1, 0] rfl)
          · rw [if_pos c_202] at hf
            refine lv_aload_n hx hb dX12_loads_205 rfl (lv_at hl 1 rfl) ?_
            refine lv_aload_n hx hb dX12_loads_206 rfl (lv_at hl 1 rfl) ?_
            refine lv_bipush (v := 20) hx hb dX12_loads_207 (by decide) ?_
            refine lv_bipush (v := 16) hx hb dX12_loads_209 (by decide) ?_
            obtain ⟨v10, e_v10, hf⟩ := Option.bind_eq_some_iff.mp hf
            refine k_X12_f (a0 := (20 : Int32)) (a1 := (16 : Int32)) (res := v10) (hres := e_v10) S hK hP tl_X12_121 ⟨Nat.le_of_ble_eq_true rfl, Nat.le_of_ble_eq_true rfl⟩ hl.1 (Nat.le_of_ble_eq_true rfl) dX12_loads_211 ?_
            obtain ⟨v11, e_v11, hf⟩ := Option.bind_eq_some_iff.mp hf
            refine k_X12_reg (a0 := v10) (res := v11) (hres := e_v11) S hK hP tl_X12_161 ⟨Nat.le_of_ble_eq_true rfl, Nat.le_of_ble_eq_true rfl⟩ hl.1 (Nat.le_of_ble_eq_true rfl) dX12_loads_214 ?_
            refine lv_lstore (lv' := [(10, .long v11), (8, .long v6), (0, .ref (r 0)), (1, .int w1), (2, .int w2), (3, .int w3), (4, .int (zB w4)), (5, .int (zB w5)), (6, .int (zB w6)), (7, .int w7)]) hx hb dX12_loads_217 hl (by decide) rfl (fun ls hl => ?_)
            refine lv_iload hx hb dX12_loads_219 (lv_at hl 9 rfl) ?_
            refine lv_iconst (v := 1) hx hb dX12_loads_221 (by decide) ?_
            refine lv_iand hx hb dX12_loads_222 ?_
            refine lv_if_ne (tgt := 235) hx hb dX12_loads_223 (by decide) (fun c_223 => ?_) (fun c_223 => ?_)
            · rw [if_neg c_223] at hf
              exact J_c235 v5.2 w1 w2 w7 v6 v11 H locs ls hf hP hD hS (lv_sub hl [2, 3, 4, 9, 1, 0] rfl)
            · rw [if_pos c_223] at hf
              refine lv_lload hx hb dX12_loads_226 (lv_at hl 0 rfl) ?_
              refine lv_bipush (v := 32) hx hb dX12_loads_228 (by decide) ?_
              refine k_X12_cut (a0 := v11) (a1 := (32 : Int32)) S tl_X12_138 ⟨Nat.le_of_ble_eq_true rfl, Nat.le_of_ble_eq_true rfl⟩ hl.1 (Nat.le_of_ble_eq_true rfl) dX12_loads_230 ?_
              refine lv_lstore (lv' := [(10, .long (F_X12_cut v11 (32 : Int32))), (8, .long v6), (0, .ref (r 0)), (1, .int w1), (2, .int w2), (3, .int w3), (4, .int (zB w4)), (5, .int (zB w5)), (6, .int (zB w6)), (7, .int w7)]) hx hb dX12_loads_233 hl (by decide) rfl (fun ls hl => ?_)
              exact J_c235 v5.2 w1 w2 w7 v6 (F_X12_cut v11 (32 : Int32)) H locs ls hf hP hD hS (lv_sub hl [2, 3, 4, 9, 1, 0] rfl)
        · rw [if_pos c_172] at hf
          refine lv_aload_n hx hb dX12_loads_175 rfl (lv_at hl 1 rfl) ?_
          refine lv_iload_n hx hb dX12_loads_176 rfl (lv_at hl 2 rfl) ?_
          refine lv_iload_n hx hb dX12_loads_177 rfl (lv_at hl 3 rfl) ?_
          refine lv_lload hx hb dX12_loads_178 (lv_at hl 0 rfl) ?_
          refine lv_aload_n hx hb dX12_loads_180 rfl (lv_at hl 1 rfl) ?_
          refine lv_bipush (v := 21) hx hb dX12_loads_181 (by decide) ?_
          refine lv_bipush (v := 10) hx hb dX12_loads_183 (by decide) ?_
          obtain ⟨v14, e_v14, hf⟩ := Option.bind_eq_some_iff.mp hf
          refine k_X12_f (a0 := (21 : Int32)) (a1 := (10 : Int32)) (res := v14) (hres := e_v14) S hK hP tl_X12_121 ⟨Nat.le_of_ble_eq_true rfl, Nat.le_of_ble_eq_true rfl⟩ hl.1 (Nat.le_of_ble_eq_true rfl) dX12_loads_185 ?_
          refine lv_i2l hx hb dX12_loads_188 rfl ?_
          refine lv_iload_n hx hb dX12_loads_189 rfl (lv_at hl 2 rfl) ?_
          refine lv_lshl (v := (j_lshl v14.toInt64 w1)) hx hb dX12_loads_190 rfl ?_
          refine lv_ladd hx hb dX12_loads_191 ?_
          refine lv_iconst (v := 0) hx hb dX12_loads_192 (by decide) ?_
          refine lv_lconst (v := 0) hx hb dX12_loads_193 (by decide) ?_
          obtain ⟨v15, e_v15, hf⟩ := Option.bind_eq_some_iff.mp hf
          refine k_X12_single (a0 := w1) (a1 := w2) (a2 := (v6 + (j_lshl v14.toInt64 w1))) (a3 := false) (a4 := (0 : Int64)) (res := v15) (hres := e_v15) S hK hA hP hD hS tl_X12_220 ⟨Nat.le_of_ble_eq_true rfl, Nat.le_of_ble_eq_true rfl⟩ hl.1 (Nat.le_of_ble_eq_true rfl) dX12_loads_194 (fun H locs hP hD hS => ?_)
          refine lv_goto (tgt := 342) hx hb dX12_loads_197 (by decide) ?_
          exact hend v15 H locs 342 ls (Option.some.inj hf) hP hD hS dX12_loads_342
      · rw [if_neg c_159] at hf
        exact hend v5.2 H locs 162 ls (Option.some.inj hf) hP hD hS dX12_loads_162
    · rw [if_neg c_146] at hf
      refine lv_aload_n hx hb dX12_loads_149 rfl (lv_at hl 0 rfl) ?_
      refine k_X12_none S hK hA hP hD hS tl_X12_158 ⟨Nat.le_of_ble_eq_true rfl, Nat.le_of_ble_eq_true rfl⟩ hl.1 (Nat.le_of_ble_eq_true rfl) dX12_loads_150 (fun H locs hP hD hS => ?_)
      exact hend (F_X12_none τ) H locs 153 ls (Option.some.inj hf) hP hD hS dX12_loads_153
  have J_c141 : ∀ (τ : MS) (w1 : Int32) (w2 : Int32) (w3 : Int32) (w5 : Bool) (w6 : Bool) (w7 : Int32) (H : Heap) (locs : List Loc) (ls : Array Slot), F_X12_loads_c141 τ w1 w2 w3 w5 w6 w7 = some res → va_P z.1 vwCl (mW z r τ) H → va_D A (mW z r τ) → va_S A s.heap H locs → lv_has ls 15 [(0, .ref (r 0)), (1, .int w1), (2, .int w2), (3, .int w3), (5, .int (zB w5)), (6, .int (zB w6)), (7, .int w7)] → W p l e { frames := 5, cells := 0, slots := 0, locals := 136 } s m ([.ref (r 0)] : List Value).toArray below meth c H locs 0 0 Q (F0 m 141 ls []) := by
    intro τ w1 w2 w3 w5 w6 w7 H locs ls hf hP hD hS hl
    unfold F_X12_loads_c141 at hf
    refine lv_iconst (v := 0) hx hb dX12_loads_141 (by decide) ?_
    refine lv_istore (lv' := [(4, .int (0 : Int32)), (0, .ref (r 0)), (1, .int w1), (2, .int w2), (3, .int w3), (5, .int (zB w5)), (6, .int (zB w6)), (7, .int w7)]) hx hb dX12_loads_142 hl (by decide) rfl (fun ls hl => ?_)
    exact J_c144 τ w1 w2 w3 false w5 w6 w7 H locs ls hf hP hD hS (lv_sub hl [1, 2, 3, 4, 0, 5, 6, 7] rfl)
  have J_c117 : ∀ (τ : MS) (w1 : Int32) (w2 : Int32) (w3 : Int32) (w4 : Bool) (w5 : Bool) (w6 : Bool) (w7 : Int32) (H : Heap) (locs : List Loc) (ls : Array Slot), F_X12_loads_c117 τ w1 w2 w3 w4 w5 w6 w7 = some res → va_P z.1 vwCl (mW z r τ) H → va_D A (mW z r τ) → va_S A s.heap H locs → lv_has ls 15 [(0, .ref (r 0)), (1, .int w1), (2, .int w2), (3, .int w3), (4, .int (zB w4)), (5, .int (zB w5)), (6, .int (zB w6)), (7, .int w7)] → W p l e { frames := 5, cells := 0, slots := 0, locals := 136 } s m ([.ref (r 0)] : List Value).toArray below meth c H locs 0 0 Q (F0 m 117 ls []) := by
    intro τ w1 w2 w3 w4 w5 w6 w7 H locs ls hf hP hD hS hl
    unfold F_X12_loads_c117 at hf
    refine lv_iload hx hb dX12_loads_117 (lv_at hl 6 rfl) ?_
    refine gz_eq (tgt := 144) hx hb dX12_loads_119 (by decide) (fun c_119 => ?_) (fun c_119 => ?_)
    · rw [if_neg c_119] at hf
      exact J_c144 τ w1 w2 w3 w4 w5 w6 w7 H locs ls hf hP hD hS (lv_sub hl [0, 1, 2, 3, 4, 5, 6, 7] rfl)
    · rw [if_pos c_119] at hf
      refine lv_aload_n hx hb dX12_loads_122 rfl (lv_at hl 0 rfl) ?_
      refine lv_bipush (v := 11) hx hb dX12_loads_123 (by decide) ?_
      refine lv_bipush (v := 10) hx hb dX12_loads_125 (by decide) ?_
      obtain ⟨v16, e_v16, hf⟩ := Option.bind_eq_some_iff.mp hf
      refine k_X12_f (a0 := (11 : Int32)) (a1 := (10 : Int32)) (res := v16) (hres := e_v16) S hK hP tl_X12_121 ⟨Nat.le_of_ble_eq_true rfl, Nat.le_of_ble_eq_true rfl⟩ hl.1 (Nat.le_of_ble_eq_true rfl) dX12_loads_127 ?_
      refine lv_iconst (v := 2) hx hb dX12_loads_130 (by decide) ?_
      refine lv_icmp_ne (tgt := 141) hx hb dX12_loads_131 (by decide) (fun c_131 => ?_) (fun c_131 => ?_)
      · rw [if_neg c_131] at hf
        exact J_c141 τ w1 w2 w3 w5 w6 w7 H locs ls hf hP hD hS (lv_sub hl [0, 1, 2, 3, 5, 6, 7] rfl)
      · rw [if_pos c_131] at hf
        refine lv_iload hx hb dX12_loads_134 (lv_at hl 7 rfl) ?_
        refine lv_iconst (v := 2) hx hb dX12_loads_136 (by decide) ?_
        refine lv_iand hx hb dX12_loads_137 ?_
        refine lv_if_ne (tgt := 144) hx hb dX12_loads_138 (by decide) (fun c_138 => ?_) (fun c_138 => ?_)
        · rw [if_neg c_138] at hf
          exact J_c144 τ w1 w2 w3 w4 w5 w6 w7 H locs ls hf hP hD hS (lv_sub hl [0, 1, 2, 3, 4, 5, 6, 7] rfl)
        · rw [if_pos c_138] at hf
          exact J_c141 τ w1 w2 w3 w5 w6 w7 H locs ls hf hP hD hS (lv_sub hl [0, 1, 2, 3, 5, 6, 7] rfl)
  have J_c80 : ∀ (τ : MS) (w1 : Int32) (w2 : Int32) (w3 : Int32) (w4 : Bool) (w5 : Bool) (s0 : Bool) (H : Heap) (locs : List Loc) (ls : Array Slot), F_X12_loads_c80 τ w1 w2 w3 w4 w5 s0 = some res → va_P z.1 vwCl (mW z r τ) H → va_D A (mW z r τ) → va_S A s.heap H locs → lv_has ls 15 [(0, .ref (r 0)), (1, .int w1), (2, .int w2), (3, .int w3), (4, .int (zB w4)), (5, .int (zB w5))] → W p l e { frames := 5, cells := 0, slots := 0, locals := 136 } s m ([.ref (r 0)] : List Value).toArray below meth c H locs 0 0 Q (F0 m 80 ls [.int (zB s0)]) := by
    intro τ w1 w2 w3 w4 w5 s0 H locs ls hf hP hD hS hl
    unfold F_X12_loads_c80 at hf
    refine lv_istore (lv' := [(6, .int (zB s0)), (0, .ref (r 0)), (1, .int w1), (2, .int w2), (3, .int w3), (4, .int (zB w4)), (5, .int (zB w5))]) hx hb dX12_loads_80 hl (by decide) rfl (fun ls hl => ?_)
    refine lv_aload_n hx hb dX12_loads_82 rfl (lv_at hl 1 rfl) ?_
    refine lv_bipush (v := 15) hx hb dX12_loads_83 (by decide) ?_
    refine lv_bipush (v := 13) hx hb dX12_loads_85 (by decide) ?_
    obtain ⟨v4, e_v4, hf⟩ := Option.bind_eq_some_iff.mp hf
    refine k_X12_f (a0 := (15 : Int32)) (a1 := (13 : Int32)) (res := v4) (hres := e_v4) S hK hP tl_X12_121 ⟨Nat.le_of_ble_eq_true rfl, Nat.le_of_ble_eq_true rfl⟩ hl.1 (Nat.le_of_ble_eq_true rfl) dX12_loads_87 ?_
    refine lv_istore (lv' := [(7, .int v4), (6, .int (zB s0)), (0, .ref (r 0)), (1, .int w1), (2, .int w2), (3, .int w3), (4, .int (zB w4)), (5, .int (zB w5))]) hx hb dX12_loads_90 hl (by decide) rfl (fun ls hl => ?_)
    refine lv_iload hx hb dX12_loads_92 (lv_at hl 7 rfl) ?_
    refine gz_ne (tgt := 117) hx hb dX12_loads_94 (by decide) (fun c_94 => ?_) (fun c_94 => ?_)
    · rw [if_pos c_94] at hf
      exact J_c117 τ w1 w2 w3 w4 w5 s0 v4 H locs ls hf hP hD hS (lv_sub hl [2, 3, 4, 5, 6, 7, 1, 0] rfl)
    · rw [if_neg c_94] at hf
      refine lv_iload hx hb dX12_loads_97 (lv_at hl 1 rfl) ?_
      refine gz_ne (tgt := 117) hx hb dX12_loads_99 (by decide) (fun c_99 => ?_) (fun c_99 => ?_)
      · rw [if_pos c_99] at hf
        exact J_c117 τ w1 w2 w3 w4 w5 s0 v4 H locs ls hf hP hD hS (lv_sub hl [2, 3, 4, 5, 6, 7, 1, 0] rfl)
      · rw [if_neg c_99] at hf
        refine lv_aload_n hx hb dX12_loads_102 rfl (lv_at hl 2 rfl) ?_
        refine lv_bipush (v := 11) hx hb dX12_loads_103 (by decide) ?_
        refine lv_bipush (v := 10) hx hb dX12_loads_105 (by decide) ?_
        obtain ⟨v17, e_v17, hf⟩ := Option.bind_eq_some_iff.mp hf
        refine k_X12_f (a0 := (11 : Int32)) (a1 := (10 : Int32)) (res := v17) (hres := e_v17) S hK hP tl_X12_121 ⟨Nat.le_of_ble_eq_true rfl, Nat.le_of_ble_eq_true rfl⟩ hl.1 (Nat.le_of_ble_eq_true rfl) dX12_loads_107 ?_
        refine lv_iconst (v := 2) hx hb dX12_loads_110 (by decide) ?_
        refine lv_icmp_ne (tgt := 117) hx hb dX12_loads_111 (by decide) (fun c_111 => ?_) (fun c_111 => ?_)
        · rw [if_neg c_111] at hf
          exact J_c117 τ w1 w2 w3 w4 w5 s0 v4 H locs ls hf hP hD hS (lv_sub hl [2, 3, 4, 5, 6, 7, 1, 0] rfl)
        · rw [if_pos c_111] at hf
          refine lv_iconst (v := 0) hx hb dX12_loads_114 (by decide) ?_
          refine lv_istore (lv' := [(4, .int (0 : Int32)), (7, .int v4), (6, .int (zB s0)), (0, .ref (r 0)), (1, .int w1), (2, .int w2), (3, .int w3), (5, .int (zB w5))]) hx hb dX12_loads_115 hl (by decide) rfl (fun ls hl => ?_)
          exact J_c117 τ w1 w2 w3 false w5 s0 v4 H locs ls hf hP hD hS (lv_sub hl [3, 4, 5, 6, 0, 7, 2, 1] rfl)
  have J_c79 : ∀ (τ : MS) (w1 : Int32) (w2 : Int32) (w3 : Int32) (w4 : Bool) (w5 : Bool) (H : Heap) (locs : List Loc) (ls : Array Slot), F_X12_loads_c79 τ w1 w2 w3 w4 w5 = some res → va_P z.1 vwCl (mW z r τ) H → va_D A (mW z r τ) → va_S A s.heap H locs → lv_has ls 15 [(0, .ref (r 0)), (1, .int w1), (2, .int w2), (3, .int w3), (4, .int (zB w4)), (5, .int (zB w5))] → W p l e { frames := 5, cells := 0, slots := 0, locals := 136 } s m ([.ref (r 0)] : List Value).toArray below meth c H locs 0 0 Q (F0 m 79 ls []) := by
    intro τ w1 w2 w3 w4 w5 H locs ls hf hP hD hS hl
    unfold F_X12_loads_c79 at hf
    refine lv_iconst (v := 0) hx hb dX12_loads_79 (by decide) ?_
    exact J_c80 τ w1 w2 w3 w4 w5 false H locs ls hf hP hD hS (lv_sub hl [0, 1, 2, 3, 4, 5] rfl)
  have J_c61 : ∀ (τ : MS) (w1 : Int32) (w2 : Int32) (w3 : Int32) (w4 : Bool) (w5 : Bool) (H : Heap) (locs : List Loc) (ls : Array Slot), F_X12_loads_c61 τ w1 w2 w3 w4 w5 = some res → va_P z.1 vwCl (mW z r τ) H → va_D A (mW z r τ) → va_S A s.heap H locs → lv_has ls 15 [(0, .ref (r 0)), (1, .int w1), (2, .int w2), (3, .int w3), (4, .int (zB w4)), (5, .int (zB w5))] → W p l e { frames := 5, cells := 0, slots := 0, locals := 136 } s m ([.ref (r 0)] : List Value).toArray below meth c H locs 0 0 Q (F0 m 61 ls []) := by
    intro τ w1 w2 w3 w4 w5 H locs ls hf hP hD hS hl
    unfold F_X12_loads_c61 at hf
    refine lv_iload hx hb dX12_loads_61 (lv_at hl 5 rfl) ?_
    refine gz_ne (tgt := 79) hx hb dX12_loads_63 (by decide) (fun c_63 => ?_) (fun c_63 => ?_)
    · rw [if_pos c_63] at hf
      exact J_c79 τ w1 w2 w3 w4 w5 H locs ls hf hP hD hS (lv_sub hl [0, 1, 2, 3, 4, 5] rfl)
    · rw [if_neg c_63] at hf
      refine lv_aload_n hx hb dX12_loads_66 rfl (lv_at hl 0 rfl) ?_
      refine lv_bipush (v := 21) hx hb dX12_loads_67 (by decide) ?_
      refine k_X12_on (a0 := (21 : Int32)) S hK hP tl_X12_118 ⟨Nat.le_of_ble_eq_true rfl, Nat.le_of_ble_eq_true rfl⟩ hl.1 (Nat.le_of_ble_eq_true rfl) dX12_loads_69 ?_
      refine gz_eq (tgt := 79) hx hb dX12_loads_72 (by decide) (fun c_72 => ?_) (fun c_72 => ?_)
      · rw [if_neg c_72] at hf
        exact J_c79 τ w1 w2 w3 w4 w5 H locs ls hf hP hD hS (lv_sub hl [0, 1, 2, 3, 4, 5] rfl)
      · rw [if_pos c_72] at hf
        refine lv_iconst (v := 1) hx hb dX12_loads_75 (by decide) ?_
        refine lv_goto (tgt := 80) hx hb dX12_loads_76 (by decide) ?_
        exact J_c80 τ w1 w2 w3 w4 w5 true H locs ls hf hP hD hS (lv_sub hl [0, 1, 2, 3, 4, 5] rfl)
  have J_c51 : ∀ (τ : MS) (w1 : Int32) (w2 : Int32) (w3 : Int32) (s0 : Bool) (H : Heap) (locs : List Loc) (ls : Array Slot), F_X12_loads_c51 τ w1 w2 w3 s0 = some res → va_P z.1 vwCl (mW z r τ) H → va_D A (mW z r τ) → va_S A s.heap H locs → lv_has ls 15 [(0, .ref (r 0)), (1, .int w1), (2, .int w2), (3, .int w3)] → W p l e { frames := 5, cells := 0, slots := 0, locals := 136 } s m ([.ref (r 0)] : List Value).toArray below meth c H locs 0 0 Q (F0 m 51 ls [.int (zB s0)]) := by
    intro τ w1 w2 w3 s0 H locs ls hf hP hD hS hl
    unfold F_X12_loads_c51 at hf
    refine lv_istore (lv' := [(4, .int (zB s0)), (0, .ref (r 0)), (1, .int w1), (2, .int w2), (3, .int w3)]) hx hb dX12_loads_51 hl (by decide) rfl (fun ls hl => ?_)
    refine lv_aload_n hx hb dX12_loads_53 rfl (lv_at hl 1 rfl) ?_
    refine lv_bipush (v := 24) hx hb dX12_loads_54 (by decide) ?_
    refine k_X12_on (a0 := (24 : Int32)) S hK hP tl_X12_118 ⟨Nat.le_of_ble_eq_true rfl, Nat.le_of_ble_eq_true rfl⟩ hl.1 (Nat.le_of_ble_eq_true rfl) dX12_loads_56 ?_
    refine lv_istore (lv' := [(5, .int (zB (F_X12_on τ (24 : Int32)))), (4, .int (zB s0)), (0, .ref (r 0)), (1, .int w1), (2, .int w2), (3, .int w3)]) hx hb dX12_loads_59 hl (by decide) rfl (fun ls hl => ?_)
    exact J_c61 τ w1 w2 w3 s0 (F_X12_on τ (24 : Int32)) H locs ls hf hP hD hS (lv_sub hl [2, 3, 4, 5, 1, 0] rfl)
  have J_c46 : ∀ (τ : MS) (w1 : Int32) (w2 : Int32) (w3 : Int32) (H : Heap) (locs : List Loc) (ls : Array Slot), F_X12_loads_c46 τ w1 w2 w3 = some res → va_P z.1 vwCl (mW z r τ) H → va_D A (mW z r τ) → va_S A s.heap H locs → lv_has ls 15 [(0, .ref (r 0)), (1, .int w1), (2, .int w2), (3, .int w3)] → W p l e { frames := 5, cells := 0, slots := 0, locals := 136 } s m ([.ref (r 0)] : List Value).toArray below meth c H locs 0 0 Q (F0 m 46 ls []) := by
    intro τ w1 w2 w3 H locs ls hf hP hD hS hl
    unfold F_X12_loads_c46 at hf
    refine lv_iconst (v := 1) hx hb dX12_loads_46 (by decide) ?_
    refine lv_goto (tgt := 51) hx hb dX12_loads_47 (by decide) ?_
    exact J_c51 τ w1 w2 w3 true H locs ls hf hP hD hS (lv_sub hl [0, 1, 2, 3] rfl)
  have J_c50 : ∀ (τ : MS) (w1 : Int32) (w2 : Int32) (w3 : Int32) (H : Heap) (locs : List Loc) (ls : Array Slot), F_X12_loads_c50 τ w1 w2 w3 = some res → va_P z.1 vwCl (mW z r τ) H → va_D A (mW z r τ) → va_S A s.heap H locs → lv_has ls 15 [(0, .ref (r 0)), (1, .int w1), (2, .int w2), (3, .int w3)] → W p l e { frames := 5, cells := 0, slots := 0, locals := 136 } s m ([.ref (r 0)] : List Value).toArray below meth c H locs 0 0 Q (F0 m 50 ls []) := by
    intro τ w1 w2 w3 H locs ls hf hP hD hS hl
    unfold F_X12_loads_c50 at hf
    refine lv_iconst (v := 0) hx hb dX12_loads_50 (by decide) ?_
    exact J_c51 τ w1 w2 w3 false H locs ls hf hP hD hS (lv_sub hl [0, 1, 2, 3] rfl)
  have J_c36 : ∀ (τ : MS) (w1 : Int32) (w2 : Int32) (w3 : Int32) (H : Heap) (locs : List Loc) (ls : Array Slot), F_X12_loads_c36 τ w1 w2 w3 = some res → va_P z.1 vwCl (mW z r τ) H → va_D A (mW z r τ) → va_S A s.heap H locs → lv_has ls 15 [(0, .ref (r 0)), (1, .int w1), (2, .int w2), (3, .int w3)] → W p l e { frames := 5, cells := 0, slots := 0, locals := 136 } s m ([.ref (r 0)] : List Value).toArray below meth c H locs 0 0 Q (F0 m 36 ls []) := by
    intro τ w1 w2 w3 H locs ls hf hP hD hS hl
    unfold F_X12_loads_c36 at hf
    refine lv_iload_n hx hb dX12_loads_36 rfl (lv_at hl 1 rfl) ?_
    refine lv_iconst (v := 2) hx hb dX12_loads_37 (by decide) ?_
    refine lv_icmp_ne (tgt := 46) hx hb dX12_loads_38 (by decide) (fun c_38 => ?_) (fun c_38 => ?_)
    · rw [if_neg c_38] at hf
      exact J_c46 τ w1 w2 w3 H locs ls hf hP hD hS (lv_sub hl [0, 1, 2, 3] rfl)
    · rw [if_pos c_38] at hf
      refine lv_iload_n hx hb dX12_loads_41 rfl (lv_at hl 2 rfl) ?_
      refine lv_iconst (v := 3) hx hb dX12_loads_42 (by decide) ?_
      refine lv_icmp_eq (tgt := 50) hx hb dX12_loads_43 (by decide) (fun c_43 => ?_) (fun c_43 => ?_)
      · rw [if_pos c_43] at hf
        exact J_c50 τ w1 w2 w3 H locs ls hf hP hD hS (lv_sub hl [0, 1, 2, 3] rfl)
      · rw [if_neg c_43] at hf
        exact J_c46 τ w1 w2 w3 H locs ls hf hP hD hS (lv_sub hl [0, 1, 2, 3] rfl)
  unfold F_X12_loads at hf
  refine lv_aload_n hx hb dX12_loads_0 rfl (lv_at hl 0 rfl) ?_
  refine lv_bipush (v := 31) hx hb dX12_loads_1 (by decide) ?_
  refine lv_bipush (v := 30) hx hb dX12_loads_3 (by decide) ?_
  obtain ⟨v1, e_v1, hf⟩ := Option.bind_eq_some_iff.mp hf
  refine k_X12_f (a0 := (31 : Int32)) (a1 := (30 : Int32)) (res := v1) (hres := e_v1) S hK hP tl_X12_121 ⟨Nat.le_of_ble_eq_true rfl, Nat.le_of_ble_eq_true rfl⟩ hl.1 (Nat.le_of_ble_eq_true rfl) dX12_loads_5 ?_
  refine lv_istore_n (lv' := [(1, .int v1), (0, .ref (r 0))]) hx hb dX12_loads_8 rfl hl (by decide) rfl (fun ls hl => ?_)
  refine lv_aload_n hx hb dX12_loads_9 rfl (lv_at hl 1 rfl) ?_
  refine lv_bipush (v := 23) hx hb dX12_loads_10 (by decide) ?_
  refine lv_bipush (v := 22) hx hb dX12_loads_12 (by decide) ?_
  obtain ⟨v2, e_v2, hf⟩ := Option.bind_eq_some_iff.mp hf
  refine k_X12_f (a0 := (23 : Int32)) (a1 := (22 : Int32)) (res := v2) (hres := e_v2) S hK hP tl_X12_121 ⟨Nat.le_of_ble_eq_true rfl, Nat.le_of_ble_eq_true rfl⟩ hl.1 (Nat.le_of_ble_eq_true rfl) dX12_loads_14 ?_
  refine lv_istore_n (lv' := [(2, .int v2), (1, .int v1), (0, .ref (r 0))]) hx hb dX12_loads_17 rfl hl (by decide) rfl (fun ls hl => ?_)
  refine lv_aload_n hx hb dX12_loads_18 rfl (lv_at hl 2 rfl) ?_
  refine lv_bipush (v := 9) hx hb dX12_loads_19 (by decide) ?_
  refine lv_iconst (v := 5) hx hb dX12_loads_21 (by decide) ?_
  obtain ⟨v3, e_v3, hf⟩ := Option.bind_eq_some_iff.mp hf
  refine k_X12_f (a0 := (9 : Int32)) (a1 := (5 : Int32)) (res := v3) (hres := e_v3) S hK hP tl_X12_121 ⟨Nat.le_of_ble_eq_true rfl, Nat.le_of_ble_eq_true rfl⟩ hl.1 (Nat.le_of_ble_eq_true rfl) dX12_loads_22 ?_
  refine lv_istore_n (lv' := [(3, .int v3), (2, .int v2), (1, .int v1), (0, .ref (r 0))]) hx hb dX12_loads_25 rfl hl (by decide) rfl (fun ls hl => ?_)
  refine lv_iload_n hx hb dX12_loads_26 rfl (lv_at hl 2 rfl) ?_
  refine lv_iconst (v := 3) hx hb dX12_loads_27 (by decide) ?_
  refine lv_icmp_ne (tgt := 36) hx hb dX12_loads_28 (by decide) (fun c_28 => ?_) (fun c_28 => ?_)
  · rw [if_neg c_28] at hf
    exact J_c36 σ v1 v2 v3 H locs ls hf hP hD hS (lv_sub hl [3, 2, 1, 0] rfl)
  · rw [if_pos c_28] at hf
    refine lv_iload_n hx hb dX12_loads_31 rfl (lv_at hl 1 rfl) ?_
    refine lv_iconst (v := 1) hx hb dX12_loads_32 (by decide) ?_
    refine lv_icmp_gt (tgt := 50) hx hb dX12_loads_33 (by decide) (fun c_33 => ?_) (fun c_33 => ?_)
    · rw [if_pos c_33] at hf
      exact J_c50 σ v1 v2 v3 H locs ls hf hP hD hS (lv_sub hl [3, 2, 1, 0] rfl)
    · rw [if_neg c_33] at hf
      exact J_c36 σ v1 v2 v3 H locs ls hf hP hD hS (lv_sub hl [3, 2, 1, 0] rfl)
theorem k_X12_loads {p : Program} {l : Launch} {e : Env} {R : Room} {s : State} {m : MethodId} {args : Array Value} {below : List Frame} {meth : Method} {c : Code} {H : Heap} {locs : List Loc} {Q : State → Prop} {cc : ByteArray} {pc : Nat} {ls : Array Slot} {rest : List Value} {own : String} {index nL : Nat} {A : Nat → Prop} {z : Cx} {r : Nat → Nat} {σ : MS} {res : MS} (hres : F_X12_loads σ = some res) (S : CallFix p m c cc nL s args tbG own) (hK : va_K z.1 vwCl (cxT z) s) (hA : ∀ q, s.heap.size ≤ q → A q) (hP : va_P z.1 vwCl (mW z r σ) H) (hD : va_D A (mW z r σ)) (hS : va_S A s.heap H locs) (hl : Cond.methodLink own index yX12_loads ∈ tbG) (hR : 5 + 1 ≤ R.frames ∧ 8 + (15 + 11) + 136 ≤ R.locals) (hsz : ls.size = nL) (hcat : (rest.map fun v => v.category).sum ≤ 8) (hdg : decode cc pc = .ok (.invokevirtual index, 3)) (kk : ∀ (H : Heap) (locs : List Loc), va_P z.1 vwCl (mW z r res) H → va_D A (mW z r res) → va_S A s.heap H locs → W p l e R s m args below meth c H locs 0 0 Q (F0 m (pc + 3) ls (rest))) : W p l e R s m args below meth c H locs 0 0 Q (F0 m pc ls (.ref (r 0) :: rest)) :=
  km (As := []) (ov := none) (w' := mW z r res) (q0 := 0) (ci := 11) S hK hA hP hD hS (c_X12_loads l z r σ H.size _ hres) ⟨tb_cB 0 S.2.2.2.2 tc_X12_loads ti_X12 hl rfl rfl (by decide +kernel) hR, S.2.2.2.2 _ tm_X12_loads, S.2.2.2.2 _ te_X12_loads⟩ rfl rfl rfl rfl hsz rfl hcat hdg kk

theorem dX12_pair_0 : decode cX12_pair 0 = .ok (.aload_n 0, 1) := by decide +kernel
theorem dX12_pair_1 : decode cX12_pair 1 = .ok (.bipush 31, 2) := by decide +kernel
theorem dX12_pair_3 : decode cX12_pair 3 = .ok (.bipush 30, 2) := by decide +kernel
theorem dX12_pair_5 : decode cX12_pair 5 = .ok (.invokevirtual 121, 3) := by decide +kernel
theorem dX12_pair_8 : decode cX12_pair 8 = .ok (.istore_n 1, 1) := by decide +kernel
theorem dX12_pair_9 : decode cX12_pair 9 = .ok (.aload_n 0, 1) := by decide +kernel
theorem dX12_pair_10 : decode cX12_pair 10 = .ok (.bipush 24, 2) := by decide +kernel
theorem dX12_pair_12 : decode cX12_pair 12 = .ok (.bipush 23, 2) := by decide +kernel
theorem dX12_pair_14 : decode cX12_pair 14 = .ok (.invokevirtual 121, 3) := by decide +kernel
theorem dX12_pair_17 : decode cX12_pair 17 = .ok (.istore_n 2, 1) := by decide +kernel
theorem dX12_pair_18 : decode cX12_pair 18 = .ok (.aload_n 0, 1) := by decide +kernel
theorem dX12_pair_19 : decode cX12_pair 19 = .ok (.bipush 22, 2) := by decide +kernel
theorem dX12_pair_21 : decode cX12_pair 21 = .ok (.invokevirtual 118, 3) := by decide +kernel
theorem dX12_pair_24 : decode cX12_pair 24 = .ok (.istore_n 3, 1) := by decide +kernel
theorem dX12_pair_25 : decode cX12_pair 25 = .ok (.iload_n 1, 1) := by decide +kernel
theorem dX12_pair_26 : decode cX12_pair 26 = .ok (.iconst 3, 1) := by decide +kernel
theorem dX12_pair_27 : decode cX12_pair 27 = .ok (.if_icmp .eq 16, 3) := by decide +kernel
theorem dX12_pair_30 : decode cX12_pair 30 = .ok (.iload_n 1, 1) := by decide +kernel
theorem dX12_pair_31 : decode cX12_pair 31 = .ok (.iconst 1, 1) := by decide +kernel
theorem dX12_pair_32 : decode cX12_pair 32 = .ok (.if_icmp .ne 7, 3) := by decide +kernel
theorem dX12_pair_35 : decode cX12_pair 35 = .ok (.iload_n 3, 1) := by decide +kernel
theorem dX12_pair_36 : decode cX12_pair 36 = .ok (.ifCond .eq 7, 3) := by decide +kernel
theorem dX12_pair_39 : decode cX12_pair 39 = .ok (.iload_n 2, 1) := by decide +kernel
theorem dX12_pair_40 : decode cX12_pair 40 = .ok (.ifCond .ne 8, 3) := by decide +kernel
theorem dX12_pair_43 : decode cX12_pair 43 = .ok (.aload_n 0, 1) := by decide +kernel
theorem dX12_pair_44 : decode cX12_pair 44 = .ok (.invokevirtual 158, 3) := by decide +kernel
theorem dX12_pair_47 : decode cX12_pair 47 = .ok (.return_, 1) := by decide +kernel
theorem dX12_pair_48 : decode cX12_pair 48 = .ok (.aload_n 0, 1) := by decide +kernel
theorem dX12_pair_49 : decode cX12_pair 49 = .ok (.bipush 9, 2) := by decide +kernel
theorem dX12_pair_51 : decode cX12_pair 51 = .ok (.iconst 5, 1) := by decide +kernel
theorem dX12_pair_52 : decode cX12_pair 52 = .ok (.invokevirtual 121, 3) := by decide +kernel
theorem dX12_pair_55 : decode cX12_pair 55 = .ok (.istore 4, 2) := by decide +kernel
theorem dX12_pair_57 : decode cX12_pair 57 = .ok (.aload_n 0, 1) := by decide +kernel
theorem dX12_pair_58 : decode cX12_pair 58 = .ok (.iload 4, 2) := by decide +kernel
theorem dX12_pair_60 : decode cX12_pair 60 = .ok (.invokevirtual 217, 3) := by decide +kernel
theorem dX12_pair_63 : decode cX12_pair 63 = .ok (.ifCond .ne 4, 3) := by decide +kernel
theorem dX12_pair_66 : decode cX12_pair 66 = .ok (.return_, 1) := by decide +kernel
theorem dX12_pair_67 : decode cX12_pair 67 = .ok (.iconst 4, 1) := by decide +kernel
theorem dX12_pair_68 : decode cX12_pair 68 = .ok (.istore 5, 2) := by decide +kernel
theorem dX12_pair_70 : decode cX12_pair 70 = .ok (.iload_n 1, 1) := by decide +kernel
theorem dX12_pair_71 : decode cX12_pair 71 = .ok (.iconst 2, 1) := by decide +kernel
theorem dX12_pair_72 : decode cX12_pair 72 = .ok (.if_icmp .ne 7, 3) := by decide +kernel
theorem dX12_pair_75 : decode cX12_pair 75 = .ok (.bipush 8, 2) := by decide +kernel
theorem dX12_pair_77 : decode cX12_pair 77 = .ok (.istore 5, 2) := by decide +kernel
theorem dX12_pair_79 : decode cX12_pair 79 = .ok (.aload_n 0, 1) := by decide +kernel
theorem dX12_pair_80 : decode cX12_pair 80 = .ok (.iload 4, 2) := by decide +kernel
theorem dX12_pair_82 : decode cX12_pair 82 = .ok (.invokevirtual 134, 3) := by decide +kernel
theorem dX12_pair_85 : decode cX12_pair 85 = .ok (.lstore 6, 2) := by decide +kernel
theorem dX12_pair_87 : decode cX12_pair 87 = .ok (.aload_n 0, 1) := by decide +kernel
theorem dX12_pair_88 : decode cX12_pair 88 = .ok (.bipush 21, 2) := by decide +kernel
theorem dX12_pair_90 : decode cX12_pair 90 = .ok (.bipush 15, 2) := by decide +kernel
theorem dX12_pair_92 : decode cX12_pair 92 = .ok (.invokevirtual 191, 3) := by decide +kernel
theorem dX12_pair_95 : decode cX12_pair 95 = .ok (.iload 5, 2) := by decide +kernel
theorem dX12_pair_97 : decode cX12_pair 97 = .ok (.i2l, 1) := by decide +kernel
theorem dX12_pair_98 : decode cX12_pair 98 = .ok (.lmul, 1) := by decide +kernel
theorem dX12_pair_99 : decode cX12_pair 99 = .ok (.lstore 8, 2) := by decide +kernel
theorem dX12_pair_101 : decode cX12_pair 101 = .ok (.lload 6, 2) := by decide +kernel
theorem dX12_pair_103 : decode cX12_pair 103 = .ok (.lstore 10, 2) := by decide +kernel
theorem dX12_pair_105 : decode cX12_pair 105 = .ok (.iload_n 2, 1) := by decide +kernel
theorem dX12_pair_106 : decode cX12_pair 106 = .ok (.iconst 1, 1) := by decide +kernel
theorem dX12_pair_107 : decode cX12_pair 107 = .ok (.if_icmp .eq 10, 3) := by decide +kernel
theorem dX12_pair_110 : decode cX12_pair 110 = .ok (.lload 6, 2) := by decide +kernel
theorem dX12_pair_112 : decode cX12_pair 112 = .ok (.lload 8, 2) := by decide +kernel
theorem dX12_pair_114 : decode cX12_pair 114 = .ok (.ladd, 1) := by decide +kernel
theorem dX12_pair_115 : decode cX12_pair 115 = .ok (.lstore 10, 2) := by decide +kernel
theorem dX12_pair_117 : decode cX12_pair 117 = .ok (.aload_n 0, 1) := by decide +kernel
theorem dX12_pair_118 : decode cX12_pair 118 = .ok (.lload 10, 2) := by decide +kernel
theorem dX12_pair_120 : decode cX12_pair 120 = .ok (.iload 5, 2) := by decide +kernel
theorem dX12_pair_122 : decode cX12_pair 122 = .ok (.iload_n 3, 1) := by decide +kernel
theorem dX12_pair_123 : decode cX12_pair 123 = .ok (.ifCond .ne 7, 3) := by decide +kernel
theorem dX12_pair_126 : decode cX12_pair 126 = .ok (.iconst 1, 1) := by decide +kernel
theorem dX12_pair_127 : decode cX12_pair 127 = .ok (.goto 4, 3) := by decide +kernel
theorem dX12_pair_130 : decode cX12_pair 130 = .ok (.iconst 0, 1) := by decide +kernel
theorem dX12_pair_131 : decode cX12_pair 131 = .ok (.invokevirtual 210, 3) := by decide +kernel
theorem dX12_pair_134 : decode cX12_pair 134 = .ok (.ifCond .ne 4, 3) := by decide +kernel
theorem dX12_pair_137 : decode cX12_pair 137 = .ok (.return_, 1) := by decide +kernel
theorem dX12_pair_138 : decode cX12_pair 138 = .ok (.aload_n 0, 1) := by decide +kernel
theorem dX12_pair_139 : decode cX12_pair 139 = .ok (.getfield 44, 3) := by decide +kernel
theorem dX12_pair_142 : decode cX12_pair 142 = .ok (.lstore 12, 2) := by decide +kernel
theorem dX12_pair_144 : decode cX12_pair 144 = .ok (.aload_n 0, 1) := by decide +kernel
theorem dX12_pair_145 : decode cX12_pair 145 = .ok (.lload 10, 2) := by decide +kernel
theorem dX12_pair_147 : decode cX12_pair 147 = .ok (.iload 5, 2) := by decide +kernel
theorem dX12_pair_149 : decode cX12_pair 149 = .ok (.i2l, 1) := by decide +kernel
theorem dX12_pair_150 : decode cX12_pair 150 = .ok (.ladd, 1) := by decide +kernel
theorem dX12_pair_151 : decode cX12_pair 151 = .ok (.iload 5, 2) := by decide +kernel
theorem dX12_pair_153 : decode cX12_pair 153 = .ok (.iload_n 3, 1) := by decide +kernel
theorem dX12_pair_154 : decode cX12_pair 154 = .ok (.ifCond .ne 7, 3) := by decide +kernel
theorem dX12_pair_157 : decode cX12_pair 157 = .ok (.iconst 1, 1) := by decide +kernel
theorem dX12_pair_158 : decode cX12_pair 158 = .ok (.goto 4, 3) := by decide +kernel
theorem dX12_pair_161 : decode cX12_pair 161 = .ok (.iconst 0, 1) := by decide +kernel
theorem dX12_pair_162 : decode cX12_pair 162 = .ok (.invokevirtual 210, 3) := by decide +kernel
theorem dX12_pair_165 : decode cX12_pair 165 = .ok (.ifCond .ne 4, 3) := by decide +kernel
theorem dX12_pair_168 : decode cX12_pair 168 = .ok (.return_, 1) := by decide +kernel
theorem dX12_pair_169 : decode cX12_pair 169 = .ok (.aload_n 0, 1) := by decide +kernel
theorem dX12_pair_170 : decode cX12_pair 170 = .ok (.getfield 44, 3) := by decide +kernel
theorem dX12_pair_173 : decode cX12_pair 173 = .ok (.l2i, 1) := by decide +kernel
theorem dX12_pair_174 : decode cX12_pair 174 = .ok (.istore 14, 2) := by decide +kernel
theorem dX12_pair_176 : decode cX12_pair 176 = .ok (.aload_n 0, 1) := by decide +kernel
theorem dX12_pair_177 : decode cX12_pair 177 = .ok (.lload 12, 2) := by decide +kernel
theorem dX12_pair_179 : decode cX12_pair 179 = .ok (.l2i, 1) := by decide +kernel
theorem dX12_pair_180 : decode cX12_pair 180 = .ok (.iload 5, 2) := by decide +kernel
theorem dX12_pair_182 : decode cX12_pair 182 = .ok (.invokevirtual 64, 3) := by decide +kernel
theorem dX12_pair_185 : decode cX12_pair 185 = .ok (.lstore 15, 2) := by decide +kernel
theorem dX12_pair_187 : decode cX12_pair 187 = .ok (.aload_n 0, 1) := by decide +kernel
theorem dX12_pair_188 : decode cX12_pair 188 = .ok (.iload 14, 2) := by decide +kernel
theorem dX12_pair_190 : decode cX12_pair 190 = .ok (.iload 5, 2) := by decide +kernel
theorem dX12_pair_192 : decode cX12_pair 192 = .ok (.invokevirtual 64, 3) := by decide +kernel
theorem dX12_pair_195 : decode cX12_pair 195 = .ok (.lstore 17, 2) := by decide +kernel
theorem dX12_pair_197 : decode cX12_pair 197 = .ok (.iload_n 3, 1) := by decide +kernel
theorem dX12_pair_198 : decode cX12_pair 198 = .ok (.ifCond .ne 66, 3) := by decide +kernel
theorem dX12_pair_201 : decode cX12_pair 201 = .ok (.aload_n 0, 1) := by decide +kernel
theorem dX12_pair_202 : decode cX12_pair 202 = .ok (.aload_n 0, 1) := by decide +kernel
theorem dX12_pair_203 : decode cX12_pair 203 = .ok (.iconst 4, 1) := by decide +kernel
theorem dX12_pair_204 : decode cX12_pair 204 = .ok (.iconst 0, 1) := by decide +kernel
theorem dX12_pair_205 : decode cX12_pair 205 = .ok (.invokevirtual 121, 3) := by decide +kernel
theorem dX12_pair_208 : decode cX12_pair 208 = .ok (.invokevirtual 161, 3) := by decide +kernel
theorem dX12_pair_211 : decode cX12_pair 211 = .ok (.lstore 19, 2) := by decide +kernel
theorem dX12_pair_213 : decode cX12_pair 213 = .ok (.aload_n 0, 1) := by decide +kernel
theorem dX12_pair_214 : decode cX12_pair 214 = .ok (.aload_n 0, 1) := by decide +kernel
theorem dX12_pair_215 : decode cX12_pair 215 = .ok (.bipush 14, 2) := by decide +kernel
theorem dX12_pair_217 : decode cX12_pair 217 = .ok (.bipush 10, 2) := by decide +kernel
theorem dX12_pair_219 : decode cX12_pair 219 = .ok (.invokevirtual 121, 3) := by decide +kernel
theorem dX12_pair_222 : decode cX12_pair 222 = .ok (.invokevirtual 161, 3) := by decide +kernel
theorem dX12_pair_225 : decode cX12_pair 225 = .ok (.lstore 21, 2) := by decide +kernel
theorem dX12_pair_227 : decode cX12_pair 227 = .ok (.aload_n 0, 1) := by decide +kernel
theorem dX12_pair_228 : decode cX12_pair 228 = .ok (.iload 5, 2) := by decide +kernel
theorem dX12_pair_230 : decode cX12_pair 230 = .ok (.lload 21, 2) := by decide +kernel
theorem dX12_pair_232 : decode cX12_pair 232 = .ok (.invokevirtual 214, 3) := by decide +kernel
theorem dX12_pair_235 : decode cX12_pair 235 = .ok (.aload_n 0, 1) := by decide +kernel
theorem dX12_pair_236 : decode cX12_pair 236 = .ok (.lload 12, 2) := by decide +kernel
theorem dX12_pair_238 : decode cX12_pair 238 = .ok (.putfield 44, 3) := by decide +kernel
theorem dX12_pair_241 : decode cX12_pair 241 = .ok (.aload_n 0, 1) := by decide +kernel
theorem dX12_pair_242 : decode cX12_pair 242 = .ok (.iload 5, 2) := by decide +kernel
theorem dX12_pair_244 : decode cX12_pair 244 = .ok (.lload 19, 2) := by decide +kernel
theorem dX12_pair_246 : decode cX12_pair 246 = .ok (.invokevirtual 214, 3) := by decide +kernel
theorem dX12_pair_249 : decode cX12_pair 249 = .ok (.aload_n 0, 1) := by decide +kernel
theorem dX12_pair_250 : decode cX12_pair 250 = .ok (.iload 14, 2) := by decide +kernel
theorem dX12_pair_252 : decode cX12_pair 252 = .ok (.i2l, 1) := by decide +kernel
theorem dX12_pair_253 : decode cX12_pair 253 = .ok (.putfield 44, 3) := by decide +kernel
theorem dX12_pair_256 : decode cX12_pair 256 = .ok (.aload_n 0, 1) := by decide +kernel
theorem dX12_pair_257 : decode cX12_pair 257 = .ok (.iload 5, 2) := by decide +kernel
theorem dX12_pair_259 : decode cX12_pair 259 = .ok (.lload 21, 2) := by decide +kernel
theorem dX12_pair_261 : decode cX12_pair 261 = .ok (.invokevirtual 214, 3) := by decide +kernel
theorem dX12_pair_264 : decode cX12_pair 264 = .ok (.iload_n 2, 1) := by decide +kernel
theorem dX12_pair_265 : decode cX12_pair 265 = .ok (.iconst 2, 1) := by decide +kernel
theorem dX12_pair_266 : decode cX12_pair 266 = .ok (.if_icmp .eq 14, 3) := by decide +kernel
theorem dX12_pair_269 : decode cX12_pair 269 = .ok (.aload_n 0, 1) := by decide +kernel
theorem dX12_pair_270 : decode cX12_pair 270 = .ok (.iload 4, 2) := by decide +kernel
theorem dX12_pair_272 : decode cX12_pair 272 = .ok (.lload 6, 2) := by decide +kernel
theorem dX12_pair_274 : decode cX12_pair 274 = .ok (.lload 8, 2) := by decide +kernel
theorem dX12_pair_276 : decode cX12_pair 276 = .ok (.ladd, 1) := by decide +kernel
theorem dX12_pair_277 : decode cX12_pair 277 = .ok (.invokevirtual 155, 3) := by decide +kernel
theorem dX12_pair_280 : decode cX12_pair 280 = .ok (.iload_n 3, 1) := by decide +kernel
theorem dX12_pair_281 : decode cX12_pair 281 = .ok (.ifCond .ne 4, 3) := by decide +kernel
theorem dX12_pair_284 : decode cX12_pair 284 = .ok (.return_, 1) := by decide +kernel
theorem dX12_pair_285 : decode cX12_pair 285 = .ok (.iload_n 1, 1) := by decide +kernel
theorem dX12_pair_286 : decode cX12_pair 286 = .ok (.iconst 1, 1) := by decide +kernel
theorem dX12_pair_287 : decode cX12_pair 287 = .ok (.if_icmp .ne 21, 3) := by decide +kernel
theorem dX12_pair_290 : decode cX12_pair 290 = .ok (.lload 15, 2) := by decide +kernel
theorem dX12_pair_292 : decode cX12_pair 292 = .ok (.bipush 32, 2) := by decide +kernel
theorem dX12_pair_294 : decode cX12_pair 294 = .ok (.invokestatic 125, 3) := by decide +kernel
theorem dX12_pair_297 : decode cX12_pair 297 = .ok (.lstore 15, 2) := by decide +kernel
theorem dX12_pair_299 : decode cX12_pair 299 = .ok (.lload 17, 2) := by decide +kernel
theorem dX12_pair_301 : decode cX12_pair 301 = .ok (.bipush 32, 2) := by decide +kernel
theorem dX12_pair_303 : decode cX12_pair 303 = .ok (.invokestatic 125, 3) := by decide +kernel
theorem dX12_pair_306 : decode cX12_pair 306 = .ok (.lstore 17, 2) := by decide +kernel
theorem dX12_pair_308 : decode cX12_pair 308 = .ok (.aload_n 0, 1) := by decide +kernel
theorem dX12_pair_309 : decode cX12_pair 309 = .ok (.aload_n 0, 1) := by decide +kernel
theorem dX12_pair_310 : decode cX12_pair 310 = .ok (.iconst 4, 1) := by decide +kernel
theorem dX12_pair_311 : decode cX12_pair 311 = .ok (.iconst 0, 1) := by decide +kernel
theorem dX12_pair_312 : decode cX12_pair 312 = .ok (.invokevirtual 121, 3) := by decide +kernel
theorem dX12_pair_315 : decode cX12_pair 315 = .ok (.lload 15, 2) := by decide +kernel
theorem dX12_pair_317 : decode cX12_pair 317 = .ok (.invokevirtual 151, 3) := by decide +kernel
theorem dX12_pair_320 : decode cX12_pair 320 = .ok (.aload_n 0, 1) := by decide +kernel
theorem dX12_pair_321 : decode cX12_pair 321 = .ok (.aload_n 0, 1) := by decide +kernel
theorem dX12_pair_322 : decode cX12_pair 322 = .ok (.bipush 14, 2) := by decide +kernel
theorem dX12_pair_324 : decode cX12_pair 324 = .ok (.bipush 10, 2) := by decide +kernel
theorem dX12_pair_326 : decode cX12_pair 326 = .ok (.invokevirtual 121, 3) := by decide +kernel
theorem dX12_pair_329 : decode cX12_pair 329 = .ok (.lload 17, 2) := by decide +kernel
theorem dX12_pair_331 : decode cX12_pair 331 = .ok (.invokevirtual 151, 3) := by decide +kernel
theorem dX12_pair_334 : decode cX12_pair 334 = .ok (.return_, 1) := by decide +kernel
def F_X12_pair_c43 (τ : MS) : Option (MS) := some ((F_X12_none τ))
def F_X12_pair_c308 (τ : MS) (w15 : Int64) (w17 : Int64) : Option (MS) := ((F_X12_f τ (4 : Int32) (0 : Int32)).bind fun v11 => ((F_X12_put τ v11 w15).bind fun v12 => ((F_X12_f v12 (14 : Int32) (10 : Int32)).bind fun v13 => ((F_X12_put v12 v13 w17).bind fun v14 => some (v14)))))
def F_X12_pair_c280 (τ : MS) (w1 : Int32) (w3 : Bool) (w15 : Int64) (w17 : Int64) : Option (MS) := (if w3 = true then (if w1 = (1 : Int32) then ((F_X12_extend w15 (32 : Int32)).bind fun v15 => ((F_X12_extend w17 (32 : Int32)).bind fun v16 => (F_X12_pair_c308 τ v15 v16))) else (F_X12_pair_c308 τ w15 w17)) else some (τ))
def F_X12_pair_c264 (τ : MS) (w1 : Int32) (w2 : Int32) (w3 : Bool) (w4 : Int32) (w6 : Int64) (w8 : Int64) (w15 : Int64) (w17 : Int64) : Option (MS) := (if w2 = (2 : Int32) then (F_X12_pair_c280 τ w1 w3 w15 w17) else ((F_X12_putOrPointer τ w4 (w6 + w8)).bind fun v17 => (F_X12_pair_c280 v17 w1 w3 w15 w17)))
def F_X12_pair_c176 (τ : MS) (w1 : Int32) (w2 : Int32) (w3 : Bool) (w4 : Int32) (w5 : Int32) (w6 : Int64) (w8 : Int64) (w12 : Int64) (w14 : Int32) : Option (MS) := ((F_X12_bytes τ w12.toInt32 w5).bind fun v9 => ((F_X12_bytes τ w14 w5).bind fun v10 => (if w3 = true then (F_X12_pair_c264 τ w1 w2 w3 w4 w6 w8 v9 v10) else ((F_X12_f τ (4 : Int32) (0 : Int32)).bind fun v18 => ((F_X12_reg τ v18).bind fun v19 => ((F_X12_f τ (14 : Int32) (10 : Int32)).bind fun v20 => ((F_X12_reg τ v20).bind fun v21 => ((F_X12_keep τ w5 v21).bind fun v22 => ((F_X12_keep (mu_place v22 w12) w5 v19).bind fun v23 => ((F_X12_keep (mu_place v23 w14.toInt64) w5 v21).bind fun v24 => (F_X12_pair_c264 v24 w1 w2 w3 w4 w6 w8 v9 v10)))))))))))
def F_X12_pair_c162 (τ : MS) (w1 : Int32) (w2 : Int32) (w3 : Bool) (w4 : Int32) (w5 : Int32) (w6 : Int64) (w8 : Int64) (w12 : Int64) (s1 : Int64) (s2 : Int32) (s3 : Bool) : Option (MS) := ((F_X12_reaches τ s1 s2 s3).bind fun v8 => (if v8.1 = true then (F_X12_pair_c176 v8.2 w1 w2 w3 w4 w5 w6 w8 w12 (m_place v8.2).toInt32) else some (v8.2)))
def F_X12_pair_c131 (τ : MS) (w1 : Int32) (w2 : Int32) (w3 : Bool) (w4 : Int32) (w5 : Int32) (w6 : Int64) (w8 : Int64) (w10 : Int64) (s1 : Int64) (s2 : Int32) (s3 : Bool) : Option (MS) := ((F_X12_reaches τ s1 s2 s3).bind fun v7 => (if v7.1 = true then (if w3 = true then (F_X12_pair_c162 v7.2 w1 w2 w3 w4 w5 w6 w8 (m_place v7.2) (w10 + w5.toInt64) w5 false) else (F_X12_pair_c162 v7.2 w1 w2 w3 w4 w5 w6 w8 (m_place v7.2) (w10 + w5.toInt64) w5 true)) else some (v7.2)))
def F_X12_pair_c117 (τ : MS) (w1 : Int32) (w2 : Int32) (w3 : Bool) (w4 : Int32) (w5 : Int32) (w6 : Int64) (w8 : Int64) (w10 : Int64) : Option (MS) := (if w3 = true then (F_X12_pair_c131 τ w1 w2 w3 w4 w5 w6 w8 w10 w10 w5 false) else (F_X12_pair_c131 τ w1 w2 w3 w4 w5 w6 w8 w10 w10 w5 true))
def F_X12_pair_c101 (τ : MS) (w1 : Int32) (w2 : Int32) (w3 : Bool) (w4 : Int32) (w5 : Int32) (w6 : Int64) (w8 : Int64) : Option (MS) := (if w2 = (1 : Int32) then (F_X12_pair_c117 τ w1 w2 w3 w4 w5 w6 w8 w6) else (F_X12_pair_c117 τ w1 w2 w3 w4 w5 w6 w8 (w6 + w8)))
def F_X12_pair_c79 (τ : MS) (w1 : Int32) (w2 : Int32) (w3 : Bool) (w4 : Int32) (w5 : Int32) : Option (MS) := ((F_X12_regOrPointer τ w4).bind fun v5 => ((F_X12_signed τ (21 : Int32) (15 : Int32)).bind fun v6 => (F_X12_pair_c101 τ w1 w2 w3 w4 w5 v5 (v6 * w5.toInt64))))
def F_X12_pair_c39 (τ : MS) (w1 : Int32) (w2 : Int32) (w3 : Bool) : Option (MS) := (if w2 = 0 then (F_X12_pair_c43 τ) else ((F_X12_f τ (9 : Int32) (5 : Int32)).bind fun v3 => ((F_X12_baseStands τ v3).bind fun v4 => (if v4.1 = true then (if w1 = (2 : Int32) then (F_X12_pair_c79 v4.2 w1 w2 w3 v3 (8 : Int32)) else (F_X12_pair_c79 v4.2 w1 w2 w3 v3 (4 : Int32))) else some (v4.2)))))
def F_X12_pair_c25 (τ : MS) (w1 : Int32) (w2 : Int32) (w3 : Bool) : Option (MS) := (if w1 = (3 : Int32) then (F_X12_pair_c43 τ) else (if w1 = (1 : Int32) then (if w3 = true then (F_X12_pair_c39 τ w1 w2 w3) else (F_X12_pair_c43 τ)) else (F_X12_pair_c39 τ w1 w2 w3)))
def F_X12_pair (σ : MS)  : Option (MS) := ((F_X12_f σ (31 : Int32) (30 : Int32)).bind fun v1 => ((F_X12_f σ (24 : Int32) (23 : Int32)).bind fun v2 => (F_X12_pair_c25 σ v1 v2 (F_X12_on σ (22 : Int32)))))
set_option maxHeartbeats 4000000 in
set_option maxRecDepth 100000 in
theorem c_X12_pair (l : Launch) (z : Cx) (r : Nat → Nat) (σ : MS) (sz : Nat) (res : MS) (hf : F_X12_pair σ = some res) : Met l yX12_pair (wsC yX12_pair cX12_pair 23 none) { frames := 4, cells := 0, slots := 0, locals := 103 } (mPc z (mW z r σ) sz [.ref (r 0)]) (gM z (va_A (mW z r σ) sz) none (mW z r res)) 0 0 (va_A (mW z r σ) sz) := by
  refine mk_m_v (own := RX12) (wf := mW z r) (by decide) rfl sz _ (Nat.le_of_ble_eq_true rfl) (fun p e s m below meth c A H locs Q ls S hK hA hP hD hS hl hend => ?_)
  have hx := S.1
  have hb := S.2.1
  have hown := S.2.2.2.1
  have hts := S.2.2.2.2
  have hl : lv_has ls 23 [(0, .ref (r 0))] := hl
  have J_c43 : ∀ (τ : MS) (H : Heap) (locs : List Loc) (ls : Array Slot), F_X12_pair_c43 τ = some res → va_P z.1 vwCl (mW z r τ) H → va_D A (mW z r τ) → va_S A s.heap H locs → lv_has ls 23 [(0, .ref (r 0))] → W p l e { frames := 4, cells := 0, slots := 0, locals := 103 } s m ([.ref (r 0)] : List Value).toArray below meth c H locs 0 0 Q (F0 m 43 ls []) := by
    intro τ H locs ls hf hP hD hS hl
    unfold F_X12_pair_c43 at hf
    refine lv_aload_n hx hb dX12_pair_43 rfl (lv_at hl 0 rfl) ?_
    refine k_X12_none S hK hA hP hD hS tl_X12_158 ⟨Nat.le_of_ble_eq_true rfl, Nat.le_of_ble_eq_true rfl⟩ hl.1 (Nat.le_of_ble_eq_true rfl) dX12_pair_44 (fun H locs hP hD hS => ?_)
    exact hend (F_X12_none τ) H locs 47 ls (Option.some.inj hf) hP hD hS dX12_pair_47
  have J_c308 : ∀ (τ : MS) (w15 : Int64) (w17 : Int64) (H : Heap) (locs : List Loc) (ls : Array Slot), F_X12_pair_c308 τ w15 w17 = some res → va_P z.1 vwCl (mW z r τ) H → va_D A (mW z r τ) → va_S A s.heap H locs → lv_has ls 23 [(0, .ref (r 0)), (15, .long w15), (17, .long w17)] → W p l e { frames := 4, cells := 0, slots := 0, locals := 103 } s m ([.ref (r 0)] : List Value).toArray below meth c H locs 0 0 Q (F0 m 308 ls []) := by
    intro τ w15 w17 H locs ls hf hP hD hS hl
    unfold F_X12_pair_c308 at hf
    refine lv_aload_n hx hb dX12_pair_308 rfl (lv_at hl 0 rfl) ?_
    refine lv_aload_n hx hb dX12_pair_309 rfl (lv_at hl 0 rfl) ?_
    refine lv_iconst (v := 4) hx hb dX12_pair_310 (by decide) ?_
    refine lv_iconst (v := 0) hx hb dX12_pair_311 (by decide) ?_
    obtain ⟨v11, e_v11, hf⟩ := Option.bind_eq_some_iff.mp hf
    refine k_X12_f (a0 := (4 : Int32)) (a1 := (0 : Int32)) (res := v11) (hres := e_v11) S hK hP tl_X12_121 ⟨Nat.le_of_ble_eq_true rfl, Nat.le_of_ble_eq_true rfl⟩ hl.1 (Nat.le_of_ble_eq_true rfl) dX12_pair_312 ?_
    refine lv_lload hx hb dX12_pair_315 (lv_at hl 1 rfl) ?_
    obtain ⟨v12, e_v12, hf⟩ := Option.bind_eq_some_iff.mp hf
    refine k_X12_put (a0 := v11) (a1 := w15) (res := v12) (hres := e_v12) S hK hA hP hD hS tl_X12_151 ⟨Nat.le_of_ble_eq_true rfl, Nat.le_of_ble_eq_true rfl⟩ hl.1 (Nat.le_of_ble_eq_true rfl) dX12_pair_317 (fun H locs hP hD hS => ?_)
    refine lv_aload_n hx hb dX12_pair_320 rfl (lv_at hl 0 rfl) ?_
    refine lv_aload_n hx hb dX12_pair_321 rfl (lv_at hl 0 rfl) ?_
    refine lv_bipush (v := 14) hx hb dX12_pair_322 (by decide) ?_
    refine lv_bipush (v := 10) hx hb dX12_pair_324 (by decide) ?_
    obtain ⟨v13, e_v13, hf⟩ := Option.bind_eq_some_iff.mp hf
    refine k_X12_f (a0 := (14 : Int32)) (a1 := (10 : Int32)) (res := v13) (hres := e_v13) S hK hP tl_X12_121 ⟨Nat.le_of_ble_eq_true rfl, Nat.le_of_ble_eq_true rfl⟩ hl.1 (Nat.le_of_ble_eq_true rfl) dX12_pair_326 ?_
    refine lv_lload hx hb dX12_pair_329 (lv_at hl 2 rfl) ?_
    obtain ⟨v14, e_v14, hf⟩ := Option.bind_eq_some_iff.mp hf
    refine k_X12_put (a0 := v13) (a1 := w17) (res := v14) (hres := e_v14) S hK hA hP hD hS tl_X12_151 ⟨Nat.le_of_ble_eq_true rfl, Nat.le_of_ble_eq_true rfl⟩ hl.1 (Nat.le_of_ble_eq_true rfl) dX12_pair_331 (fun H locs hP hD hS => ?_)
    exact hend v14 H locs 334 ls (Option.some.inj hf) hP hD hS dX12_pair_334
  have J_c280 : ∀ (τ : MS) (w1 : Int32) (w3 : Bool) (w15 : Int64) (w17 : Int64) (H : Heap) (locs : List Loc) (ls : Array Slot), F_X12_pair_c280 τ w1 w3 w15 w17 = some res → va_P z.1 vwCl (mW z r τ) H → va_D A (mW z r τ) → va_S A s.heap H locs → lv_has ls 23 [(0, .ref (r 0)), (1, .int w1), (3, .int (zB w3)), (15, .long w15), (17, .long w17)] → W p l e { frames := 4, cells := 0, slots := 0, locals := 103 } s m ([.ref (r 0)] : List Value).toArray below meth c H locs 0 0 Q (F0 m 280 ls []) := by
    intro τ w1 w3 w15 w17 H locs ls hf hP hD hS hl
    unfold F_X12_pair_c280 at hf
    refine lv_iload_n hx hb dX12_pair_280 rfl (lv_at hl 2 rfl) ?_
    refine gz_ne (tgt := 285) hx hb dX12_pair_281 (by decide) (fun c_281 => ?_) (fun c_281 => ?_)
    · rw [if_pos c_281] at hf
      refine lv_iload_n hx hb dX12_pair_285 rfl (lv_at hl 1 rfl) ?_
      refine lv_iconst (v := 1) hx hb dX12_pair_286 (by decide) ?_
      refine lv_icmp_ne (tgt := 308) hx hb dX12_pair_287 (by decide) (fun c_287 => ?_) (fun c_287 => ?_)
      · rw [if_neg c_287] at hf
        exact J_c308 τ w15 w17 H locs ls hf hP hD hS (lv_sub hl [0, 3, 4] rfl)
      · rw [if_pos c_287] at hf
        refine lv_lload hx hb dX12_pair_290 (lv_at hl 3 rfl) ?_
        refine lv_bipush (v := 32) hx hb dX12_pair_292 (by decide) ?_
        obtain ⟨v15, e_v15, hf⟩ := Option.bind_eq_some_iff.mp hf
        refine k_X12_extend (a0 := w15) (a1 := (32 : Int32)) (res := v15) (hres := e_v15) S tl_X12_125 ⟨Nat.le_of_ble_eq_true rfl, Nat.le_of_ble_eq_true rfl⟩ hl.1 (Nat.le_of_ble_eq_true rfl) dX12_pair_294 ?_
        refine lv_lstore (lv' := [(15, .long v15), (0, .ref (r 0)), (1, .int w1), (3, .int (zB w3)), (17, .long w17)]) hx hb dX12_pair_297 hl (by decide) rfl (fun ls hl => ?_)
        refine lv_lload hx hb dX12_pair_299 (lv_at hl 4 rfl) ?_
        refine lv_bipush (v := 32) hx hb dX12_pair_301 (by decide) ?_
        obtain ⟨v16, e_v16, hf⟩ := Option.bind_eq_some_iff.mp hf
        refine k_X12_extend (a0 := w17) (a1 := (32 : Int32)) (res := v16) (hres := e_v16) S tl_X12_125 ⟨Nat.le_of_ble_eq_true rfl, Nat.le_of_ble_eq_true rfl⟩ hl.1 (Nat.le_of_ble_eq_true rfl) dX12_pair_303 ?_
        refine lv_lstore (lv' := [(17, .long v16), (15, .long v15), (0, .ref (r 0)), (1, .int w1), (3, .int (zB w3))]) hx hb dX12_pair_306 hl (by decide) rfl (fun ls hl => ?_)
        exact J_c308 τ v15 v16 H locs ls hf hP hD hS (lv_sub hl [2, 1, 0] rfl)
    · rw [if_neg c_281] at hf
      exact hend τ H locs 284 ls (Option.some.inj hf) hP hD hS dX12_pair_284
  have J_c264 : ∀ (τ : MS) (w1 : Int32) (w2 : Int32) (w3 : Bool) (w4 : Int32) (w6 : Int64) (w8 : Int64) (w15 : Int64) (w17 : Int64) (H : Heap) (locs : List Loc) (ls : Array Slot), F_X12_pair_c264 τ w1 w2 w3 w4 w6 w8 w15 w17 = some res → va_P z.1 vwCl (mW z r τ) H → va_D A (mW z r τ) → va_S A s.heap H locs → lv_has ls 23 [(0, .ref (r 0)), (1, .int w1), (2, .int w2), (3, .int (zB w3)), (4, .int w4), (6, .long w6), (8, .long w8), (15, .long w15), (17, .long w17)] → W p l e { frames := 4, cells := 0, slots := 0, locals := 103 } s m ([.ref (r 0)] : List Value).toArray below meth c H locs 0 0 Q (F0 m 264 ls []) := by
    intro τ w1 w2 w3 w4 w6 w8 w15 w17 H locs ls hf hP hD hS hl
    unfold F_X12_pair_c264 at hf
    refine lv_iload_n hx hb dX12_pair_264 rfl (lv_at hl 2 rfl) ?_
    refine lv_iconst (v := 2) hx hb dX12_pair_265 (by decide) ?_
    refine lv_icmp_eq (tgt := 280) hx hb dX12_pair_266 (by decide) (fun c_266 => ?_) (fun c_266 => ?_)
    · rw [if_pos c_266] at hf
      exact J_c280 τ w1 w3 w15 w17 H locs ls hf hP hD hS (lv_sub hl [0, 1, 3, 7, 8] rfl)
    · rw [if_neg c_266] at hf
      refine lv_aload_n hx hb dX12_pair_269 rfl (lv_at hl 0 rfl) ?_
      refine lv_iload hx hb dX12_pair_270 (lv_at hl 4 rfl) ?_
      refine lv_lload hx hb dX12_pair_272 (lv_at hl 5 rfl) ?_
      refine lv_lload hx hb dX12_pair_274 (lv_at hl 6 rfl) ?_
      refine lv_ladd hx hb dX12_pair_276 ?_
      obtain ⟨v17, e_v17, hf⟩ := Option.bind_eq_some_iff.mp hf
      refine k_X12_putOrPointer (a0 := w4) (a1 := (w6 + w8)) (res := v17) (hres := e_v17) S hK hA hP hD hS tl_X12_155 ⟨Nat.le_of_ble_eq_true rfl, Nat.le_of_ble_eq_true rfl⟩ hl.1 (Nat.le_of_ble_eq_true rfl) dX12_pair_277 (fun H locs hP hD hS => ?_)
      exact J_c280 v17 w1 w3 w15 w17 H locs ls hf hP hD hS (lv_sub hl [0, 1, 3, 7, 8] rfl)
  have J_c176 : ∀ (τ : MS) (w1 : Int32) (w2 : Int32) (w3 : Bool) (w4 : Int32) (w5 : Int32) (w6 : Int64) (w8 : Int64) (w12 : Int64) (w14 : Int32) (H : Heap) (locs : List Loc) (ls : Array Slot), F_X12_pair_c176 τ w1 w2 w3 w4 w5 w6 w8 w12 w14 = some res → va_P z.1 vwCl (mW z r τ) H → va_D A (mW z r τ) → va_S A s.heap H locs → lv_has ls 23 [(0, .ref (r 0)), (1, .int w1), (2, .int w2), (3, .int (zB w3)), (4, .int w4), (5, .int w5), (6, .long w6), (8, .long w8), (12, .long w12), (14, .int w14)] → W p l e { frames := 4, cells := 0, slots := 0, locals := 103 } s m ([.ref (r 0)] : List Value).toArray below meth c H locs 0 0 Q (F0 m 176 ls []) := by
    intro τ w1 w2 w3 w4 w5 w6 w8 w12 w14 H locs ls hf hP hD hS hl
    unfold F_X12_pair_c176 at hf
    refine lv_aload_n hx hb dX12_pair_176 rfl (lv_at hl 0 rfl) ?_
    refine lv_lload hx hb dX12_pair_177 (lv_at hl 8 rfl) ?_
    refine lv_l2i hx hb dX12_pair_179 rfl ?_
    refine lv_iload hx hb dX12_pair_180 (lv_at hl 5 rfl) ?_
    obtain ⟨v9, e_v9, hf⟩ := Option.bind_eq_some_iff.mp hf
    refine k_X12_bytes (a0 := w12.toInt32) (a1 := w5) (res := v9) (hres := e_v9) S hK hP tl_X12_64 ⟨Nat.le_of_ble_eq_true rfl, Nat.le_of_ble_eq_true rfl⟩ hl.1 (Nat.le_of_ble_eq_true rfl) dX12_pair_182 ?_
    refine lv_lstore (lv' := [(15, .long v9), (0, .ref (r 0)), (1, .int w1), (2, .int w2), (3, .int (zB w3)), (4, .int w4), (5, .int w5), (6, .long w6), (8, .long w8), (12, .long w12), (14, .int w14)]) hx hb dX12_pair_185 hl (by decide) rfl (fun ls hl => ?_)
    refine lv_aload_n hx hb dX12_pair_187 rfl (lv_at hl 1 rfl) ?_
    refine lv_iload hx hb dX12_pair_188 (lv_at hl 10 rfl) ?_
    refine lv_iload hx hb dX12_pair_190 (lv_at hl 6 rfl) ?_
    obtain ⟨v10, e_v10, hf⟩ := Option.bind_eq_some_iff.mp hf
    refine k_X12_bytes (a0 := w14) (a1 := w5) (res := v10) (hres := e_v10) S hK hP tl_X12_64 ⟨Nat.le_of_ble_eq_true rfl, Nat.le_of_ble_eq_true rfl⟩ hl.1 (Nat.le_of_ble_eq_true rfl) dX12_pair_192 ?_
    refine lv_lstore (lv' := [(17, .long v10), (15, .long v9), (0, .ref (r 0)), (1, .int w1), (2, .int w2), (3, .int (zB w3)), (4, .int w4), (5, .int w5), (6, .long w6), (8, .long w8), (12, .long w12), (14, .int w14)]) hx hb dX12_pair_195 hl (by decide) rfl (fun ls hl => ?_)
    refine lv_iload_n hx hb dX12_pair_197 rfl (lv_at hl 5 rfl) ?_
    refine gz_ne (tgt := 264) hx hb dX12_pair_198 (by decide) (fun c_198 => ?_) (fun c_198 => ?_)
    · rw [if_pos c_198] at hf
      exact J_c264 τ w1 w2 w3 w4 w6 w8 v9 v10 H locs ls hf hP hD hS (lv_sub hl [2, 3, 4, 5, 6, 8, 9, 1, 0] rfl)
    · rw [if_neg c_198] at hf
      refine lv_aload_n hx hb dX12_pair_201 rfl (lv_at hl 2 rfl) ?_
      refine lv_aload_n hx hb dX12_pair_202 rfl (lv_at hl 2 rfl) ?_
      refine lv_iconst (v := 4) hx hb dX12_pair_203 (by decide) ?_
      refine lv_iconst (v := 0) hx hb dX12_pair_204 (by decide) ?_
      obtain ⟨v18, e_v18, hf⟩ := Option.bind_eq_some_iff.mp hf
      refine k_X12_f (a0 := (4 : Int32)) (a1 := (0 : Int32)) (res := v18) (hres := e_v18) S hK hP tl_X12_121 ⟨Nat.le_of_ble_eq_true rfl, Nat.le_of_ble_eq_true rfl⟩ hl.1 (Nat.le_of_ble_eq_true rfl) dX12_pair_205 ?_
      obtain ⟨v19, e_v19, hf⟩ := Option.bind_eq_some_iff.mp hf
      refine k_X12_reg (a0 := v18) (res := v19) (hres := e_v19) S hK hP tl_X12_161 ⟨Nat.le_of_ble_eq_true rfl, Nat.le_of_ble_eq_true rfl⟩ hl.1 (Nat.le_of_ble_eq_true rfl) dX12_pair_208 ?_
      refine lv_lstore (lv' := [(19, .long v19), (17, .long v10), (15, .long v9), (0, .ref (r 0)), (1, .int w1), (2, .int w2), (3, .int (zB w3)), (4, .int w4), (5, .int w5), (6, .long w6), (8, .long w8), (12, .long w12), (14, .int w14)]) hx hb dX12_pair_211 hl (by decide) rfl (fun ls hl => ?_)
      refine lv_aload_n hx hb dX12_pair_213 rfl (lv_at hl 3 rfl) ?_
      refine lv_aload_n hx hb dX12_pair_214 rfl (lv_at hl 3 rfl) ?_
      refine lv_bipush (v := 14) hx hb dX12_pair_215 (by decide) ?_
      refine lv_bipush (v := 10) hx hb dX12_pair_217 (by decide) ?_
      obtain ⟨v20, e_v20, hf⟩ := Option.bind_eq_some_iff.mp hf
      refine k_X12_f (a0 := (14 : Int32)) (a1 := (10 : Int32)) (res := v20) (hres := e_v20) S hK hP tl_X12_121 ⟨Nat.le_of_ble_eq_true rfl, Nat.le_of_ble_eq_true rfl⟩ hl.1 (Nat.le_of_ble_eq_true rfl) dX12_pair_219 ?_
      obtain ⟨v21, e_v21, hf⟩ := Option.bind_eq_some_iff.mp hf
      refine k_X12_reg (a0 := v20) (res := v21) (hres := e_v21) S hK hP tl_X12_161 ⟨Nat.le_of_ble_eq_true rfl, Nat.le_of_ble_eq_true rfl⟩ hl.1 (Nat.le_of_ble_eq_true rfl) dX12_pair_222 ?_
      refine lv_lstore (lv' := [(21, .long v21), (19, .long v19), (17, .long v10), (15, .long v9), (0, .ref (r 0)), (1, .int w1), (2, .int w2), (3, .int (zB w3)), (4, .int w4), (5, .int w5), (6, .long w6), (8, .long w8), (12, .long w12), (14, .int w14)]) hx hb dX12_pair_225 hl (by decide) rfl (fun ls hl => ?_)
      refine lv_aload_n hx hb dX12_pair_227 rfl (lv_at hl 4 rfl) ?_
      refine lv_iload hx hb dX12_pair_228 (lv_at hl 9 rfl) ?_
      refine lv_lload hx hb dX12_pair_230 (lv_at hl 0 rfl) ?_
      obtain ⟨v22, e_v22, hf⟩ := Option.bind_eq_some_iff.mp hf
      refine k_X12_keep (a0 := w5) (a1 := v21) (res := v22) (hres := e_v22) S hK hA hP hD hS tl_X12_214 ⟨Nat.le_of_ble_eq_true rfl, Nat.le_of_ble_eq_true rfl⟩ hl.1 (Nat.le_of_ble_eq_true rfl) dX12_pair_232 (fun H locs hP hD hS => ?_)
      refine lv_aload_n hx hb dX12_pair_235 rfl (lv_at hl 4 rfl) ?_
      refine lv_lload hx hb dX12_pair_236 (lv_at hl 12 rfl) ?_
      refine fp_X12_place (v := w12) S hK hP hD hS tf_X12_44 dX12_pair_238 (fun H locs hP hD hS => ?_)
      refine lv_aload_n hx hb dX12_pair_241 rfl (lv_at hl 4 rfl) ?_
      refine lv_iload hx hb dX12_pair_242 (lv_at hl 9 rfl) ?_
      refine lv_lload hx hb dX12_pair_244 (lv_at hl 1 rfl) ?_
      obtain ⟨v23, e_v23, hf⟩ := Option.bind_eq_some_iff.mp hf
      refine k_X12_keep (a0 := w5) (a1 := v19) (res := v23) (hres := e_v23) S hK hA hP hD hS tl_X12_214 ⟨Nat.le_of_ble_eq_true rfl, Nat.le_of_ble_eq_true rfl⟩ hl.1 (Nat.le_of_ble_eq_true rfl) dX12_pair_246 (fun H locs hP hD hS => ?_)
      refine lv_aload_n hx hb dX12_pair_249 rfl (lv_at hl 4 rfl) ?_
      refine lv_iload hx hb dX12_pair_250 (lv_at hl 13 rfl) ?_
      refine lv_i2l hx hb dX12_pair_252 rfl ?_
      refine fp_X12_place (v := w14.toInt64) S hK hP hD hS tf_X12_44 dX12_pair_253 (fun H locs hP hD hS => ?_)
      refine lv_aload_n hx hb dX12_pair_256 rfl (lv_at hl 4 rfl) ?_
      refine lv_iload hx hb dX12_pair_257 (lv_at hl 9 rfl) ?_
      refine lv_lload hx hb dX12_pair_259 (lv_at hl 0 rfl) ?_
      obtain ⟨v24, e_v24, hf⟩ := Option.bind_eq_some_iff.mp hf
      refine k_X12_keep (a0 := w5) (a1 := v21) (res := v24) (hres := e_v24) S hK hA hP hD hS tl_X12_214 ⟨Nat.le_of_ble_eq_true rfl, Nat.le_of_ble_eq_true rfl⟩ hl.1 (Nat.le_of_ble_eq_true rfl) dX12_pair_261 (fun H locs hP hD hS => ?_)
      exact J_c264 v24 w1 w2 w3 w4 w6 w8 v9 v10 H locs ls hf hP hD hS (lv_sub hl [4, 5, 6, 7, 8, 10, 11, 3, 2] rfl)
  have J_c162 : ∀ (τ : MS) (w1 : Int32) (w2 : Int32) (w3 : Bool) (w4 : Int32) (w5 : Int32) (w6 : Int64) (w8 : Int64) (w12 : Int64) (s1 : Int64) (s2 : Int32) (s3 : Bool) (H : Heap) (locs : List Loc) (ls : Array Slot), F_X12_pair_c162 τ w1 w2 w3 w4 w5 w6 w8 w12 s1 s2 s3 = some res → va_P z.1 vwCl (mW z r τ) H → va_D A (mW z r τ) → va_S A s.heap H locs → lv_has ls 23 [(0, .ref (r 0)), (1, .int w1), (2, .int w2), (3, .int (zB w3)), (4, .int w4), (5, .int w5), (6, .long w6), (8, .long w8), (12, .long w12)] → W p l e { frames := 4, cells := 0, slots := 0, locals := 103 } s m ([.ref (r 0)] : List Value).toArray below meth c H locs 0 0 Q (F0 m 162 ls [.int (zB s3), .int s2, .long s1, .ref (r 0)]) := by
    intro τ w1 w2 w3 w4 w5 w6 w8 w12 s1 s2 s3 H locs ls hf hP hD hS hl
    unfold F_X12_pair_c162 at hf
    obtain ⟨v8, e_v8, hf⟩ := Option.bind_eq_some_iff.mp hf
    refine k_X12_reaches (a0 := s1) (a1 := s2) (a2 := s3) (res := v8) (hres := e_v8) S hK hA hP hD hS tl_X12_210 ⟨Nat.le_of_ble_eq_true rfl, Nat.le_of_ble_eq_true rfl⟩ hl.1 (Nat.le_of_ble_eq_true rfl) dX12_pair_162 (fun H locs hP hD hS => ?_)
    refine gz_ne (tgt := 169) hx hb dX12_pair_165 (by decide) (fun c_165 => ?_) (fun c_165 => ?_)
    · rw [if_pos c_165] at hf
      refine lv_aload_n hx hb dX12_pair_169 rfl (lv_at hl 0 rfl) ?_
      refine fg_X12_place S hK hP tf_X12_44 dX12_pair_170 ?_
      refine lv_l2i hx hb dX12_pair_173 rfl ?_
      refine lv_istore (lv' := [(14, .int (m_place v8.2).toInt32), (0, .ref (r 0)), (1, .int w1), (2, .int w2), (3, .int (zB w3)), (4, .int w4), (5, .int w5), (6, .long w6), (8, .long w8), (12, .long w12)]) hx hb dX12_pair_174 hl (by decide) rfl (fun ls hl => ?_)
      exact J_c176 v8.2 w1 w2 w3 w4 w5 w6 w8 w12 (m_place v8.2).toInt32 H locs ls hf hP hD hS (lv_sub hl [1, 2, 3, 4, 5, 6, 7, 8, 9, 0] rfl)
    · rw [if_neg c_165] at hf
      exact hend v8.2 H locs 168 ls (Option.some.inj hf) hP hD hS dX12_pair_168
  have J_c131 : ∀ (τ : MS) (w1 : Int32) (w2 : Int32) (w3 : Bool) (w4 : Int32) (w5 : Int32) (w6 : Int64) (w8 : Int64) (w10 : Int64) (s1 : Int64) (s2 : Int32) (s3 : Bool) (H : Heap) (locs : List Loc) (ls : Array Slot), F_X12_pair_c131 τ w1 w2 w3 w4 w5 w6 w8 w10 s1 s2 s3 = some res → va_P z.1 vwCl (mW z r τ) H → va_D A (mW z r τ) → va_S A s.heap H locs → lv_has ls 23 [(0, .ref (r 0)), (1, .int w1), (2, .int w2), (3, .int (zB w3)), (4, .int w4), (5, .int w5), (6, .long w6), (8, .long w8), (10, .long w10)] → W p l e { frames := 4, cells := 0, slots := 0, locals := 103 } s m ([.ref (r 0)] : List Value).toArray below meth c H locs 0 0 Q (F0 m 131 ls [.int (zB s3), .int s2, .long s1, .ref (r 0)]) := by
    intro τ w1 w2 w3 w4 w5 w6 w8 w10 s1 s2 s3 H locs ls hf hP hD hS hl
    unfold F_X12_pair_c131 at hf
    obtain ⟨v7, e_v7, hf⟩ := Option.bind_eq_some_iff.mp hf
    refine k_X12_reaches (a0 := s1) (a1 := s2) (a2 := s3) (res := v7) (hres := e_v7) S hK hA hP hD hS tl_X12_210 ⟨Nat.le_of_ble_eq_true rfl, Nat.le_of_ble_eq_true rfl⟩ hl.1 (Nat.le_of_ble_eq_true rfl) dX12_pair_131 (fun H locs hP hD hS => ?_)
    refine gz_ne (tgt := 138) hx hb dX12_pair_134 (by decide) (fun c_134 => ?_) (fun c_134 => ?_)
    · rw [if_pos c_134] at hf
      refine lv_aload_n hx hb dX12_pair_138 rfl (lv_at hl 0 rfl) ?_
      refine fg_X12_place S hK hP tf_X12_44 dX12_pair_139 ?_
      refine lv_lstore (lv' := [(12, .long (m_place v7.2)), (0, .ref (r 0)), (1, .int w1), (2, .int w2), (3, .int (zB w3)), (4, .int w4), (5, .int w5), (6, .long w6), (8, .long w8), (10, .long w10)]) hx hb dX12_pair_142 hl (by decide) rfl (fun ls hl => ?_)
      refine lv_aload_n hx hb dX12_pair_144 rfl (lv_at hl 1 rfl) ?_
      refine lv_lload hx hb dX12_pair_145 (lv_at hl 9 rfl) ?_
      refine lv_iload hx hb dX12_pair_147 (lv_at hl 6 rfl) ?_
      refine lv_i2l hx hb dX12_pair_149 rfl ?_
      refine lv_ladd hx hb dX12_pair_150 ?_
      refine lv_iload hx hb dX12_pair_151 (lv_at hl 6 rfl) ?_
      refine lv_iload_n hx hb dX12_pair_153 rfl (lv_at hl 4 rfl) ?_
      refine gz_ne (tgt := 161) hx hb dX12_pair_154 (by decide) (fun c_154 => ?_) (fun c_154 => ?_)
      · rw [if_pos c_154] at hf
        refine lv_iconst (v := 0) hx hb dX12_pair_161 (by decide) ?_
        exact J_c162 v7.2 w1 w2 w3 w4 w5 w6 w8 (m_place v7.2) (w10 + w5.toInt64) w5 false H locs ls hf hP hD hS (lv_sub hl [1, 2, 3, 4, 5, 6, 7, 8, 0] rfl)
      · rw [if_neg c_154] at hf
        refine lv_iconst (v := 1) hx hb dX12_pair_157 (by decide) ?_
        refine lv_goto (tgt := 162) hx hb dX12_pair_158 (by decide) ?_
        exact J_c162 v7.2 w1 w2 w3 w4 w5 w6 w8 (m_place v7.2) (w10 + w5.toInt64) w5 true H locs ls hf hP hD hS (lv_sub hl [1, 2, 3, 4, 5, 6, 7, 8, 0] rfl)
    · rw [if_neg c_134] at hf
      exact hend v7.2 H locs 137 ls (Option.some.inj hf) hP hD hS dX12_pair_137
  have J_c117 : ∀ (τ : MS) (w1 : Int32) (w2 : Int32) (w3 : Bool) (w4 : Int32) (w5 : Int32) (w6 : Int64) (w8 : Int64) (w10 : Int64) (H : Heap) (locs : List Loc) (ls : Array Slot), F_X12_pair_c117 τ w1 w2 w3 w4 w5 w6 w8 w10 = some res → va_P z.1 vwCl (mW z r τ) H → va_D A (mW z r τ) → va_S A s.heap H locs → lv_has ls 23 [(0, .ref (r 0)), (1, .int w1), (2, .int w2), (3, .int (zB w3)), (4, .int w4), (5, .int w5), (6, .long w6), (8, .long w8), (10, .long w10)] → W p l e { frames := 4, cells := 0, slots := 0, locals := 103 } s m ([.ref (r 0)] : List Value).toArray below meth c H locs 0 0 Q (F0 m 117 ls []) := by
    intro τ w1 w2 w3 w4 w5 w6 w8 w10 H locs ls hf hP hD hS hl
    unfold F_X12_pair_c117 at hf
    refine lv_aload_n hx hb dX12_pair_117 rfl (lv_at hl 0 rfl) ?_
    refine lv_lload hx hb dX12_pair_118 (lv_at hl 8 rfl) ?_
    refine lv_iload hx hb dX12_pair_120 (lv_at hl 5 rfl) ?_
    refine lv_iload_n hx hb dX12_pair_122 rfl (lv_at hl 3 rfl) ?_
    refine gz_ne (tgt := 130) hx hb dX12_pair_123 (by decide) (fun c_123 => ?_) (fun c_123 => ?_)
    · rw [if_pos c_123] at hf
      refine lv_iconst (v := 0) hx hb dX12_pair_130 (by decide) ?_
      exact J_c131 τ w1 w2 w3 w4 w5 w6 w8 w10 w10 w5 false H locs ls hf hP hD hS (lv_sub hl [0, 1, 2, 3, 4, 5, 6, 7, 8] rfl)
    · rw [if_neg c_123] at hf
      refine lv_iconst (v := 1) hx hb dX12_pair_126 (by decide) ?_
      refine lv_goto (tgt := 131) hx hb dX12_pair_127 (by decide) ?_
      exact J_c131 τ w1 w2 w3 w4 w5 w6 w8 w10 w10 w5 true H locs ls hf hP hD hS (lv_sub hl [0, 1, 2, 3, 4, 5, 6, 7, 8] rfl)
  have J_c101 : ∀ (τ : MS) (w1 : Int32) (w2 : Int32) (w3 : Bool) (w4 : Int32) (w5 : Int32) (w6 : Int64) (w8 : Int64) (H : Heap) (locs : List Loc) (ls : Array Slot), F_X12_pair_c101 τ w1 w2 w3 w4 w5 w6 w8 = some res → va_P z.1 vwCl (mW z r τ) H → va_D A (mW z r τ) → va_S A s.heap H locs → lv_has ls 23 [(0, .ref (r 0)), (1, .int w1), (2, .int w2), (3, .int (zB w3)), (4, .int w4), (5, .int w5), (6, .long w6), (8, .long w8)] → W p l e { frames := 4, cells := 0, slots := 0, locals := 103 } s m ([.ref (r 0)] : List Value).toArray below meth c H locs 0 0 Q (F0 m 101 ls []) := by
    intro τ w1 w2 w3 w4 w5 w6 w8 H locs ls hf hP hD hS hl
    unfold F_X12_pair_c101 at hf
    refine lv_lload hx hb dX12_pair_101 (lv_at hl 6 rfl) ?_
    refine lv_lstore (lv' := [(10, .long w6), (0, .ref (r 0)), (1, .int w1), (2, .int w2), (3, .int (zB w3)), (4, .int w4), (5, .int w5), (6, .long w6), (8, .long w8)]) hx hb dX12_pair_103 hl (by decide) rfl (fun ls hl => ?_)
    refine lv_iload_n hx hb dX12_pair_105 rfl (lv_at hl 3 rfl) ?_
    refine lv_iconst (v := 1) hx hb dX12_pair_106 (by decide) ?_
    refine lv_icmp_eq (tgt := 117) hx hb dX12_pair_107 (by decide) (fun c_107 => ?_) (fun c_107 => ?_)
    · rw [if_pos c_107] at hf
      exact J_c117 τ w1 w2 w3 w4 w5 w6 w8 w6 H locs ls hf hP hD hS (lv_sub hl [1, 2, 3, 4, 5, 6, 7, 8, 0] rfl)
    · rw [if_neg c_107] at hf
      refine lv_lload hx hb dX12_pair_110 (lv_at hl 7 rfl) ?_
      refine lv_lload hx hb dX12_pair_112 (lv_at hl 8 rfl) ?_
      refine lv_ladd hx hb dX12_pair_114 ?_
      refine lv_lstore (lv' := [(10, .long (w6 + w8)), (0, .ref (r 0)), (1, .int w1), (2, .int w2), (3, .int (zB w3)), (4, .int w4), (5, .int w5), (6, .long w6), (8, .long w8)]) hx hb dX12_pair_115 hl (by decide) rfl (fun ls hl => ?_)
      exact J_c117 τ w1 w2 w3 w4 w5 w6 w8 (w6 + w8) H locs ls hf hP hD hS (lv_sub hl [1, 2, 3, 4, 5, 6, 7, 8, 0] rfl)
  have J_c79 : ∀ (τ : MS) (w1 : Int32) (w2 : Int32) (w3 : Bool) (w4 : Int32) (w5 : Int32) (H : Heap) (locs : List Loc) (ls : Array Slot), F_X12_pair_c79 τ w1 w2 w3 w4 w5 = some res → va_P z.1 vwCl (mW z r τ) H → va_D A (mW z r τ) → va_S A s.heap H locs → lv_has ls 23 [(0, .ref (r 0)), (1, .int w1), (2, .int w2), (3, .int (zB w3)), (4, .int w4), (5, .int w5)] → W p l e { frames := 4, cells := 0, slots := 0, locals := 103 } s m ([.ref (r 0)] : List Value).toArray below meth c H locs 0 0 Q (F0 m 79 ls []) := by
    intro τ w1 w2 w3 w4 w5 H locs ls hf hP hD hS hl
    unfold F_X12_pair_c79 at hf
    refine lv_aload_n hx hb dX12_pair_79 rfl (lv_at hl 0 rfl) ?_
    refine lv_iload hx hb dX12_pair_80 (lv_at hl 4 rfl) ?_
    obtain ⟨v5, e_v5, hf⟩ := Option.bind_eq_some_iff.mp hf
    refine k_X12_regOrPointer (a0 := w4) (res := v5) (hres := e_v5) S hK hP tl_X12_134 ⟨Nat.le_of_ble_eq_true rfl, Nat.le_of_ble_eq_true rfl⟩ hl.1 (Nat.le_of_ble_eq_true rfl) dX12_pair_82 ?_
    refine lv_lstore (lv' := [(6, .long v5), (0, .ref (r 0)), (1, .int w1), (2, .int w2), (3, .int (zB w3)), (4, .int w4), (5, .int w5)]) hx hb dX12_pair_85 hl (by decide) rfl (fun ls hl => ?_)
    refine lv_aload_n hx hb dX12_pair_87 rfl (lv_at hl 1 rfl) ?_
    refine lv_bipush (v := 21) hx hb dX12_pair_88 (by decide) ?_
    refine lv_bipush (v := 15) hx hb dX12_pair_90 (by decide) ?_
    obtain ⟨v6, e_v6, hf⟩ := Option.bind_eq_some_iff.mp hf
    refine k_X12_signed (a0 := (21 : Int32)) (a1 := (15 : Int32)) (res := v6) (hres := e_v6) S hK hP tl_X12_191 ⟨Nat.le_of_ble_eq_true rfl, Nat.le_of_ble_eq_true rfl⟩ hl.1 (Nat.le_of_ble_eq_true rfl) dX12_pair_92 ?_
    refine lv_iload hx hb dX12_pair_95 (lv_at hl 6 rfl) ?_
    refine lv_i2l hx hb dX12_pair_97 rfl ?_
    refine lv_lmul hx hb dX12_pair_98 ?_
    refine lv_lstore (lv' := [(8, .long (v6 * w5.toInt64)), (6, .long v5), (0, .ref (r 0)), (1, .int w1), (2, .int w2), (3, .int (zB w3)), (4, .int w4), (5, .int w5)]) hx hb dX12_pair_99 hl (by decide) rfl (fun ls hl => ?_)
    exact J_c101 τ w1 w2 w3 w4 w5 v5 (v6 * w5.toInt64) H locs ls hf hP hD hS (lv_sub hl [2, 3, 4, 5, 6, 7, 1, 0] rfl)
  have J_c39 : ∀ (τ : MS) (w1 : Int32) (w2 : Int32) (w3 : Bool) (H : Heap) (locs : List Loc) (ls : Array Slot), F_X12_pair_c39 τ w1 w2 w3 = some res → va_P z.1 vwCl (mW z r τ) H → va_D A (mW z r τ) → va_S A s.heap H locs → lv_has ls 23 [(0, .ref (r 0)), (1, .int w1), (2, .int w2), (3, .int (zB w3))] → W p l e { frames := 4, cells := 0, slots := 0, locals := 103 } s m ([.ref (r 0)] : List Value).toArray below meth c H locs 0 0 Q (F0 m 39 ls []) := by
    intro τ w1 w2 w3 H locs ls hf hP hD hS hl
    unfold F_X12_pair_c39 at hf
    refine lv_iload_n hx hb dX12_pair_39 rfl (lv_at hl 2 rfl) ?_
    refine lv_if_ne (tgt := 48) hx hb dX12_pair_40 (by decide) (fun c_40 => ?_) (fun c_40 => ?_)
    · rw [if_neg c_40] at hf
      refine lv_aload_n hx hb dX12_pair_48 rfl (lv_at hl 0 rfl) ?_
      refine lv_bipush (v := 9) hx hb dX12_pair_49 (by decide) ?_
      refine lv_iconst (v := 5) hx hb dX12_pair_51 (by decide) ?_
      obtain ⟨v3, e_v3, hf⟩ := Option.bind_eq_some_iff.mp hf
      refine k_X12_f (a0 := (9 : Int32)) (a1 := (5 : Int32)) (res := v3) (hres := e_v3) S hK hP tl_X12_121 ⟨Nat.le_of_ble_eq_true rfl, Nat.le_of_ble_eq_true rfl⟩ hl.1 (Nat.le_of_ble_eq_true rfl) dX12_pair_52 ?_
      refine lv_istore (lv' := [(4, .int v3), (0, .ref (r 0)), (1, .int w1), (2, .int w2), (3, .int (zB w3))]) hx hb dX12_pair_55 hl (by decide) rfl (fun ls hl => ?_)
      refine lv_aload_n hx hb dX12_pair_57 rfl (lv_at hl 1 rfl) ?_
      refine lv_iload hx hb dX12_pair_58 (lv_at hl 0 rfl) ?_
      obtain ⟨v4, e_v4, hf⟩ := Option.bind_eq_some_iff.mp hf
      refine k_X12_baseStands (a0 := v3) (res := v4) (hres := e_v4) S hK hA hP hD hS tl_X12_217 ⟨Nat.le_of_ble_eq_true rfl, Nat.le_of_ble_eq_true rfl⟩ hl.1 (Nat.le_of_ble_eq_true rfl) dX12_pair_60 (fun H locs hP hD hS => ?_)
      refine gz_ne (tgt := 67) hx hb dX12_pair_63 (by decide) (fun c_63 => ?_) (fun c_63 => ?_)
      · rw [if_pos c_63] at hf
        refine lv_iconst (v := 4) hx hb dX12_pair_67 (by decide) ?_
        refine lv_istore (lv' := [(5, .int (4 : Int32)), (4, .int v3), (0, .ref (r 0)), (1, .int w1), (2, .int w2), (3, .int (zB w3))]) hx hb dX12_pair_68 hl (by decide) rfl (fun ls hl => ?_)
        refine lv_iload_n hx hb dX12_pair_70 rfl (lv_at hl 3 rfl) ?_
        refine lv_iconst (v := 2) hx hb dX12_pair_71 (by decide) ?_
        refine lv_icmp_ne (tgt := 79) hx hb dX12_pair_72 (by decide) (fun c_72 => ?_) (fun c_72 => ?_)
        · rw [if_neg c_72] at hf
          exact J_c79 v4.2 w1 w2 w3 v3 (4 : Int32) H locs ls hf hP hD hS (lv_sub hl [2, 3, 4, 5, 1, 0] rfl)
        · rw [if_pos c_72] at hf
          refine lv_bipush (v := 8) hx hb dX12_pair_75 (by decide) ?_
          refine lv_istore (lv' := [(5, .int (8 : Int32)), (4, .int v3), (0, .ref (r 0)), (1, .int w1), (2, .int w2), (3, .int (zB w3))]) hx hb dX12_pair_77 hl (by decide) rfl (fun ls hl => ?_)
          exact J_c79 v4.2 w1 w2 w3 v3 (8 : Int32) H locs ls hf hP hD hS (lv_sub hl [2, 3, 4, 5, 1, 0] rfl)
      · rw [if_neg c_63] at hf
        exact hend v4.2 H locs 66 ls (Option.some.inj hf) hP hD hS dX12_pair_66
    · rw [if_pos c_40] at hf
      exact J_c43 τ H locs ls hf hP hD hS (lv_sub hl [0] rfl)
  have J_c25 : ∀ (τ : MS) (w1 : Int32) (w2 : Int32) (w3 : Bool) (H : Heap) (locs : List Loc) (ls : Array Slot), F_X12_pair_c25 τ w1 w2 w3 = some res → va_P z.1 vwCl (mW z r τ) H → va_D A (mW z r τ) → va_S A s.heap H locs → lv_has ls 23 [(0, .ref (r 0)), (1, .int w1), (2, .int w2), (3, .int (zB w3))] → W p l e { frames := 4, cells := 0, slots := 0, locals := 103 } s m ([.ref (r 0)] : List Value).toArray below meth c H locs 0 0 Q (F0 m 25 ls []) := by
    intro τ w1 w2 w3 H locs ls hf hP hD hS hl
    unfold F_X12_pair_c25 at hf
    refine lv_iload_n hx hb dX12_pair_25 rfl (lv_at hl 1 rfl) ?_
    refine lv_iconst (v := 3) hx hb dX12_pair_26 (by decide) ?_
    refine lv_icmp_eq (tgt := 43) hx hb dX12_pair_27 (by decide) (fun c_27 => ?_) (fun c_27 => ?_)
    · rw [if_pos c_27] at hf
      exact J_c43 τ H locs ls hf hP hD hS (lv_sub hl [0] rfl)
    · rw [if_neg c_27] at hf
      refine lv_iload_n hx hb dX12_pair_30 rfl (lv_at hl 1 rfl) ?_
      refine lv_iconst (v := 1) hx hb dX12_pair_31 (by decide) ?_
      refine lv_icmp_ne (tgt := 39) hx hb dX12_pair_32 (by decide) (fun c_32 => ?_) (fun c_32 => ?_)
      · rw [if_neg c_32] at hf
        exact J_c39 τ w1 w2 w3 H locs ls hf hP hD hS (lv_sub hl [0, 1, 2, 3] rfl)
      · rw [if_pos c_32] at hf
        refine lv_iload_n hx hb dX12_pair_35 rfl (lv_at hl 3 rfl) ?_
        refine gz_eq (tgt := 43) hx hb dX12_pair_36 (by decide) (fun c_36 => ?_) (fun c_36 => ?_)
        · rw [if_neg c_36] at hf
          exact J_c43 τ H locs ls hf hP hD hS (lv_sub hl [0] rfl)
        · rw [if_pos c_36] at hf
          exact J_c39 τ w1 w2 w3 H locs ls hf hP hD hS (lv_sub hl [0, 1, 2, 3] rfl)
  unfold F_X12_pair at hf
  refine lv_aload_n hx hb dX12_pair_0 rfl (lv_at hl 0 rfl) ?_
  refine lv_bipush (v := 31) hx hb dX12_pair_1 (by decide) ?_
  refine lv_bipush (v := 30) hx hb dX12_pair_3 (by decide) ?_
  obtain ⟨v1, e_v1, hf⟩ := Option.bind_eq_some_iff.mp hf
  refine k_X12_f (a0 := (31 : Int32)) (a1 := (30 : Int32)) (res := v1) (hres := e_v1) S hK hP tl_X12_121 ⟨Nat.le_of_ble_eq_true rfl, Nat.le_of_ble_eq_true rfl⟩ hl.1 (Nat.le_of_ble_eq_true rfl) dX12_pair_5 ?_
  refine lv_istore_n (lv' := [(1, .int v1), (0, .ref (r 0))]) hx hb dX12_pair_8 rfl hl (by decide) rfl (fun ls hl => ?_)
  refine lv_aload_n hx hb dX12_pair_9 rfl (lv_at hl 1 rfl) ?_
  refine lv_bipush (v := 24) hx hb dX12_pair_10 (by decide) ?_
  refine lv_bipush (v := 23) hx hb dX12_pair_12 (by decide) ?_
  obtain ⟨v2, e_v2, hf⟩ := Option.bind_eq_some_iff.mp hf
  refine k_X12_f (a0 := (24 : Int32)) (a1 := (23 : Int32)) (res := v2) (hres := e_v2) S hK hP tl_X12_121 ⟨Nat.le_of_ble_eq_true rfl, Nat.le_of_ble_eq_true rfl⟩ hl.1 (Nat.le_of_ble_eq_true rfl) dX12_pair_14 ?_
  refine lv_istore_n (lv' := [(2, .int v2), (1, .int v1), (0, .ref (r 0))]) hx hb dX12_pair_17 rfl hl (by decide) rfl (fun ls hl => ?_)
  refine lv_aload_n hx hb dX12_pair_18 rfl (lv_at hl 2 rfl) ?_
  refine lv_bipush (v := 22) hx hb dX12_pair_19 (by decide) ?_
  refine k_X12_on (a0 := (22 : Int32)) S hK hP tl_X12_118 ⟨Nat.le_of_ble_eq_true rfl, Nat.le_of_ble_eq_true rfl⟩ hl.1 (Nat.le_of_ble_eq_true rfl) dX12_pair_21 ?_
  refine lv_istore_n (lv' := [(3, .int (zB (F_X12_on σ (22 : Int32)))), (2, .int v2), (1, .int v1), (0, .ref (r 0))]) hx hb dX12_pair_24 rfl hl (by decide) rfl (fun ls hl => ?_)
  exact J_c25 σ v1 v2 (F_X12_on σ (22 : Int32)) H locs ls hf hP hD hS (lv_sub hl [3, 2, 1, 0] rfl)
theorem k_X12_pair {p : Program} {l : Launch} {e : Env} {R : Room} {s : State} {m : MethodId} {args : Array Value} {below : List Frame} {meth : Method} {c : Code} {H : Heap} {locs : List Loc} {Q : State → Prop} {cc : ByteArray} {pc : Nat} {ls : Array Slot} {rest : List Value} {own : String} {index nL : Nat} {A : Nat → Prop} {z : Cx} {r : Nat → Nat} {σ : MS} {res : MS} (hres : F_X12_pair σ = some res) (S : CallFix p m c cc nL s args tbG own) (hK : va_K z.1 vwCl (cxT z) s) (hA : ∀ q, s.heap.size ≤ q → A q) (hP : va_P z.1 vwCl (mW z r σ) H) (hD : va_D A (mW z r σ)) (hS : va_S A s.heap H locs) (hl : Cond.methodLink own index yX12_pair ∈ tbG) (hR : 4 + 1 ≤ R.frames ∧ 8 + (23 + 11) + 103 ≤ R.locals) (hsz : ls.size = nL) (hcat : (rest.map fun v => v.category).sum ≤ 8) (hdg : decode cc pc = .ok (.invokevirtual index, 3)) (kk : ∀ (H : Heap) (locs : List Loc), va_P z.1 vwCl (mW z r res) H → va_D A (mW z r res) → va_S A s.heap H locs → W p l e R s m args below meth c H locs 0 0 Q (F0 m (pc + 3) ls (rest))) : W p l e R s m args below meth c H locs 0 0 Q (F0 m pc ls (.ref (r 0) :: rest)) :=
  km (As := []) (ov := none) (w' := mW z r res) (q0 := 0) (ci := 11) S hK hA hP hD hS (c_X12_pair l z r σ H.size _ hres) ⟨tb_cB 0 S.2.2.2.2 tc_X12_pair ti_X12 hl rfl rfl (by decide +kernel) hR, S.2.2.2.2 _ tm_X12_pair, S.2.2.2.2 _ te_X12_pair⟩ rfl rfl rfl rfl hsz rfl hcat hdg kk

