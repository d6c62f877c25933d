theorem dX12_sums_0 : decode cX12_sums 0 = .ok (.aload_n 0, 1) := by decide +kernel
theorem dX12_sums_1 : decode cX12_sums 1 = .ok (.invokevirtual 129, 3) := by decide +kernel
theorem dX12_sums_4 : decode cX12_sums 4 = .ok (.istore_n 1, 1) := by decide +kernel
theorem dX12_sums_5 : decode cX12_sums 5 = .ok (.aload_n 0, 1) := by decide +kernel
theorem dX12_sums_6 : decode cX12_sums 6 = .ok (.bipush 23, 2) := by decide +kernel
theorem dX12_sums_8 : decode cX12_sums 8 = .ok (.bipush 22, 2) := by decide +kernel
theorem dX12_sums_10 : decode cX12_sums 10 = .ok (.invokevirtual 121, 3) := by decide +kernel
theorem dX12_sums_13 : decode cX12_sums 13 = .ok (.iconst 3, 1) := by decide +kernel
theorem dX12_sums_14 : decode cX12_sums 14 = .ok (.if_icmp .eq 15, 3) := by decide +kernel
theorem dX12_sums_17 : decode cX12_sums 17 = .ok (.aload_n 0, 1) := by decide +kernel
theorem dX12_sums_18 : decode cX12_sums 18 = .ok (.bipush 15, 2) := by decide +kernel
theorem dX12_sums_20 : decode cX12_sums 20 = .ok (.bipush 10, 2) := by decide +kernel
theorem dX12_sums_22 : decode cX12_sums 22 = .ok (.invokevirtual 121, 3) := by decide +kernel
theorem dX12_sums_25 : decode cX12_sums 25 = .ok (.iload_n 1, 1) := by decide +kernel
theorem dX12_sums_26 : decode cX12_sums 26 = .ok (.if_icmp .lt 8, 3) := by decide +kernel
theorem dX12_sums_29 : decode cX12_sums 29 = .ok (.aload_n 0, 1) := by decide +kernel
theorem dX12_sums_30 : decode cX12_sums 30 = .ok (.invokevirtual 158, 3) := by decide +kernel
theorem dX12_sums_33 : decode cX12_sums 33 = .ok (.return_, 1) := by decide +kernel
theorem dX12_sums_34 : decode cX12_sums 34 = .ok (.aload_n 0, 1) := by decide +kernel
theorem dX12_sums_35 : decode cX12_sums 35 = .ok (.aload_n 0, 1) := by decide +kernel
theorem dX12_sums_36 : decode cX12_sums 36 = .ok (.bipush 9, 2) := by decide +kernel
theorem dX12_sums_38 : decode cX12_sums 38 = .ok (.iconst 5, 1) := by decide +kernel
theorem dX12_sums_39 : decode cX12_sums 39 = .ok (.invokevirtual 121, 3) := by decide +kernel
theorem dX12_sums_42 : decode cX12_sums 42 = .ok (.invokevirtual 161, 3) := by decide +kernel
theorem dX12_sums_45 : decode cX12_sums 45 = .ok (.iload_n 1, 1) := by decide +kernel
theorem dX12_sums_46 : decode cX12_sums 46 = .ok (.invokestatic 138, 3) := by decide +kernel
theorem dX12_sums_49 : decode cX12_sums 49 = .ok (.lstore_n 2, 1) := by decide +kernel
theorem dX12_sums_50 : decode cX12_sums 50 = .ok (.aload_n 0, 1) := by decide +kernel
theorem dX12_sums_51 : decode cX12_sums 51 = .ok (.aload_n 0, 1) := by decide +kernel
theorem dX12_sums_52 : decode cX12_sums 52 = .ok (.bipush 20, 2) := by decide +kernel
theorem dX12_sums_54 : decode cX12_sums 54 = .ok (.bipush 16, 2) := by decide +kernel
theorem dX12_sums_56 : decode cX12_sums 56 = .ok (.invokevirtual 121, 3) := by decide +kernel
theorem dX12_sums_59 : decode cX12_sums 59 = .ok (.invokevirtual 161, 3) := by decide +kernel
theorem dX12_sums_62 : decode cX12_sums 62 = .ok (.iload_n 1, 1) := by decide +kernel
theorem dX12_sums_63 : decode cX12_sums 63 = .ok (.invokestatic 138, 3) := by decide +kernel
theorem dX12_sums_66 : decode cX12_sums 66 = .ok (.aload_n 0, 1) := by decide +kernel
theorem dX12_sums_67 : decode cX12_sums 67 = .ok (.bipush 23, 2) := by decide +kernel
theorem dX12_sums_69 : decode cX12_sums 69 = .ok (.bipush 22, 2) := by decide +kernel
theorem dX12_sums_71 : decode cX12_sums 71 = .ok (.invokevirtual 121, 3) := by decide +kernel
theorem dX12_sums_74 : decode cX12_sums 74 = .ok (.aload_n 0, 1) := by decide +kernel
theorem dX12_sums_75 : decode cX12_sums 75 = .ok (.bipush 15, 2) := by decide +kernel
theorem dX12_sums_77 : decode cX12_sums 77 = .ok (.bipush 10, 2) := by decide +kernel
theorem dX12_sums_79 : decode cX12_sums 79 = .ok (.invokevirtual 121, 3) := by decide +kernel
theorem dX12_sums_82 : decode cX12_sums 82 = .ok (.iload_n 1, 1) := by decide +kernel
theorem dX12_sums_83 : decode cX12_sums 83 = .ok (.invokestatic 164, 3) := by decide +kernel
theorem dX12_sums_86 : decode cX12_sums 86 = .ok (.lstore 4, 2) := by decide +kernel
theorem dX12_sums_88 : decode cX12_sums 88 = .ok (.lconst 0, 1) := by decide +kernel
theorem dX12_sums_89 : decode cX12_sums 89 = .ok (.lstore 6, 2) := by decide +kernel
theorem dX12_sums_91 : decode cX12_sums 91 = .ok (.aload_n 0, 1) := by decide +kernel
theorem dX12_sums_92 : decode cX12_sums 92 = .ok (.bipush 30, 2) := by decide +kernel
theorem dX12_sums_94 : decode cX12_sums 94 = .ok (.invokevirtual 118, 3) := by decide +kernel
theorem dX12_sums_97 : decode cX12_sums 97 = .ok (.ifCond .eq 25, 3) := by decide +kernel
theorem dX12_sums_100 : decode cX12_sums 100 = .ok (.aload_n 0, 1) := by decide +kernel
theorem dX12_sums_101 : decode cX12_sums 101 = .ok (.lload_n 2, 1) := by decide +kernel
theorem dX12_sums_102 : decode cX12_sums 102 = .ok (.lload 4, 2) := by decide +kernel
theorem dX12_sums_104 : decode cX12_sums 104 = .ok (.ldc2_w 141, 3) := by decide +kernel
theorem dX12_sums_107 : decode cX12_sums 107 = .ok (.lxor, 1) := by decide +kernel
theorem dX12_sums_108 : decode cX12_sums 108 = .ok (.iload_n 1, 1) := by decide +kernel
theorem dX12_sums_109 : decode cX12_sums 109 = .ok (.invokestatic 138, 3) := by decide +kernel
theorem dX12_sums_112 : decode cX12_sums 112 = .ok (.iconst 1, 1) := by decide +kernel
theorem dX12_sums_113 : decode cX12_sums 113 = .ok (.iload_n 1, 1) := by decide +kernel
theorem dX12_sums_114 : decode cX12_sums 114 = .ok (.invokevirtual 143, 3) := by decide +kernel
theorem dX12_sums_117 : decode cX12_sums 117 = .ok (.lstore 6, 2) := by decide +kernel
theorem dX12_sums_119 : decode cX12_sums 119 = .ok (.goto 14, 3) := by decide +kernel
theorem dX12_sums_122 : decode cX12_sums 122 = .ok (.aload_n 0, 1) := by decide +kernel
theorem dX12_sums_123 : decode cX12_sums 123 = .ok (.lload_n 2, 1) := by decide +kernel
theorem dX12_sums_124 : decode cX12_sums 124 = .ok (.lload 4, 2) := by decide +kernel
theorem dX12_sums_126 : decode cX12_sums 126 = .ok (.iconst 0, 1) := by decide +kernel
theorem dX12_sums_127 : decode cX12_sums 127 = .ok (.iload_n 1, 1) := by decide +kernel
theorem dX12_sums_128 : decode cX12_sums 128 = .ok (.invokevirtual 143, 3) := by decide +kernel
theorem dX12_sums_131 : decode cX12_sums 131 = .ok (.lstore 6, 2) := by decide +kernel
theorem dX12_sums_133 : decode cX12_sums 133 = .ok (.aload_n 0, 1) := by decide +kernel
theorem dX12_sums_134 : decode cX12_sums 134 = .ok (.bipush 29, 2) := by decide +kernel
theorem dX12_sums_136 : decode cX12_sums 136 = .ok (.invokevirtual 118, 3) := by decide +kernel
theorem dX12_sums_139 : decode cX12_sums 139 = .ok (.ifCond .eq 18, 3) := by decide +kernel
theorem dX12_sums_142 : decode cX12_sums 142 = .ok (.aload_n 0, 1) := by decide +kernel
theorem dX12_sums_143 : decode cX12_sums 143 = .ok (.lload 6, 2) := by decide +kernel
theorem dX12_sums_145 : decode cX12_sums 145 = .ok (.iload_n 1, 1) := by decide +kernel
theorem dX12_sums_146 : decode cX12_sums 146 = .ok (.aload_n 0, 1) := by decide +kernel
theorem dX12_sums_147 : decode cX12_sums 147 = .ok (.getfield 51, 3) := by decide +kernel
theorem dX12_sums_150 : decode cX12_sums 150 = .ok (.aload_n 0, 1) := by decide +kernel
theorem dX12_sums_151 : decode cX12_sums 151 = .ok (.getfield 54, 3) := by decide +kernel
theorem dX12_sums_154 : decode cX12_sums 154 = .ok (.invokevirtual 147, 3) := by decide +kernel
theorem dX12_sums_157 : decode cX12_sums 157 = .ok (.aload_n 0, 1) := by decide +kernel
theorem dX12_sums_158 : decode cX12_sums 158 = .ok (.aload_n 0, 1) := by decide +kernel
theorem dX12_sums_159 : decode cX12_sums 159 = .ok (.iconst 4, 1) := by decide +kernel
theorem dX12_sums_160 : decode cX12_sums 160 = .ok (.iconst 0, 1) := by decide +kernel
theorem dX12_sums_161 : decode cX12_sums 161 = .ok (.invokevirtual 121, 3) := by decide +kernel
theorem dX12_sums_164 : decode cX12_sums 164 = .ok (.lload 6, 2) := by decide +kernel
theorem dX12_sums_166 : decode cX12_sums 166 = .ok (.invokevirtual 151, 3) := by decide +kernel
theorem dX12_sums_169 : decode cX12_sums 169 = .ok (.return_, 1) := by decide +kernel
def F_X12_sums_c29 (τ : MS) : Option (MS) := some ((F_X12_none τ))
def F_X12_sums_c157 (τ : MS) (w6 : Int64) : Option (MS) := ((F_X12_f τ (4 : Int32) (0 : Int32)).bind fun v11 => ((F_X12_put τ v11 w6).bind fun v12 => some (v12)))
def F_X12_sums_c133 (τ : MS) (w1 : Int32) (w6 : Int64) : Option (MS) := (if (F_X12_on τ (29 : Int32)) = true then (F_X12_sums_c157 (F_X12_signs τ w6 w1 (m_carry τ) (m_over τ)) w6) else (F_X12_sums_c157 τ w6))
def F_X12_sums_c50 (τ : MS) (w1 : Int32) (w2 : Int64) : Option (MS) := ((F_X12_f τ (20 : Int32) (16 : Int32)).bind fun v5 => ((F_X12_reg τ v5).bind fun v6 => ((F_X12_f τ (23 : Int32) (22 : Int32)).bind fun v7 => ((F_X12_f τ (15 : Int32) (10 : Int32)).bind fun v8 => ((F_X12_moved (F_X12_cut v6 w1) v7 v8 w1).bind fun v9 => (if (F_X12_on τ (30 : Int32)) = true then ((F_X12_sum τ w2 (F_X12_cut (v9 ^^^ (-1 : Int64)) w1) (1 : Int32) w1).bind fun v13 => (F_X12_sums_c133 v13.2 w1 v13.1)) else ((F_X12_sum τ w2 v9 (0 : Int32) w1).bind fun v10 => (F_X12_sums_c133 v10.2 w1 v10.1))))))))
def F_X12_sums_c5 (τ : MS) (w1 : Int32) : Option (MS) := ((F_X12_f τ (23 : Int32) (22 : Int32)).bind fun v1 => (if v1 = (3 : Int32) then (F_X12_sums_c29 τ) else ((F_X12_f τ (15 : Int32) (10 : Int32)).bind fun v2 => (if v2 < w1 then ((F_X12_f τ (9 : Int32) (5 : Int32)).bind fun v3 => ((F_X12_reg τ v3).bind fun v4 => (F_X12_sums_c50 τ w1 (F_X12_cut v4 w1)))) else (F_X12_sums_c29 τ)))))
def F_X12_sums (σ : MS)  : Option (MS) := (F_X12_sums_c5 σ (F_X12_width σ))
set_option maxHeartbeats 4000000 in
set_option maxRecDepth 100000 in
theorem c_X12_sums (l : Launch) (z : Cx) (r : Nat → Nat) (σ : MS) (sz : Nat) (res : MS) (hf : F_X12_sums σ = some res) : Met l yX12_sums (wsC yX12_sums cX12_sums 8 none) { frames := 3, cells := 0, slots := 0, locals := 72 } (mPc z (mW z r σ) sz [.ref (r 0)]) (gM z (va_A (mW z r σ) sz) none (mW z r res)) 0 0 (va_A (mW z r σ) sz) := by
  refine mk_m_v (own := RX12) (wf := mW z r) (by decide) rfl sz _ (Nat.le_of_ble_eq_true rfl) (fun p e s m below meth c A H locs Q ls S hK hA hP hD hS hl hend => ?_)
  have hx := S.1
  have hb := S.2.1
  have hown := S.2.2.2.1
  have hts := S.2.2.2.2
  have hl : lv_has ls 8 [(0, .ref (r 0))] := hl
  have J_c29 : ∀ (τ : MS) (H : Heap) (locs : List Loc) (ls : Array Slot), F_X12_sums_c29 τ = some res → va_P z.1 vwCl (mW z r τ) H → va_D A (mW z r τ) → va_S A s.heap H locs → lv_has ls 8 [(0, .ref (r 0))] → W p l e { frames := 3, cells := 0, slots := 0, locals := 72 } s m ([.ref (r 0)] : List Value).toArray below meth c H locs 0 0 Q (F0 m 29 ls []) := by
    intro τ H locs ls hf hP hD hS hl
    unfold F_X12_sums_c29 at hf
    refine lv_aload_n hx hb dX12_sums_29 rfl (lv_at hl 0 rfl) ?_
    refine k_X12_none S hK hA hP hD hS tl_X12_158 ⟨Nat.le_of_ble_eq_true rfl, Nat.le_of_ble_eq_true rfl⟩ hl.1 (Nat.le_of_ble_eq_true rfl) dX12_sums_30 (fun H locs hP hD hS => ?_)
    exact hend (F_X12_none τ) H locs 33 ls (Option.some.inj hf) hP hD hS dX12_sums_33
  have J_c157 : ∀ (τ : MS) (w6 : Int64) (H : Heap) (locs : List Loc) (ls : Array Slot), F_X12_sums_c157 τ w6 = some res → va_P z.1 vwCl (mW z r τ) H → va_D A (mW z r τ) → va_S A s.heap H locs → lv_has ls 8 [(0, .ref (r 0)), (6, .long w6)] → W p l e { frames := 3, cells := 0, slots := 0, locals := 72 } s m ([.ref (r 0)] : List Value).toArray below meth c H locs 0 0 Q (F0 m 157 ls []) := by
    intro τ w6 H locs ls hf hP hD hS hl
    unfold F_X12_sums_c157 at hf
    refine lv_aload_n hx hb dX12_sums_157 rfl (lv_at hl 0 rfl) ?_
    refine lv_aload_n hx hb dX12_sums_158 rfl (lv_at hl 0 rfl) ?_
    refine lv_iconst (v := 4) hx hb dX12_sums_159 (by decide) ?_
    refine lv_iconst (v := 0) hx hb dX12_sums_160 (by decide) ?_
    obtain ⟨v11, e_v11, hf⟩ := Option.bind_eq_some_iff.mp hf
    refine k_X12_f (a0 := (4 : Int32)) (a1 := (0 : Int32)) (res := v11) (hres := e_v11) S hK hP tl_X12_121 ⟨Nat.le_of_ble_eq_true rfl, Nat.le_of_ble_eq_true rfl⟩ hl.1 (Nat.le_of_ble_eq_true rfl) dX12_sums_161 ?_
    refine lv_lload hx hb dX12_sums_164 (lv_at hl 1 rfl) ?_
    obtain ⟨v12, e_v12, hf⟩ := Option.bind_eq_some_iff.mp hf
    refine k_X12_put (a0 := v11) (a1 := w6) (res := v12) (hres := e_v12) S hK hA hP hD hS tl_X12_151 ⟨Nat.le_of_ble_eq_true rfl, Nat.le_of_ble_eq_true rfl⟩ hl.1 (Nat.le_of_ble_eq_true rfl) dX12_sums_166 (fun H locs hP hD hS => ?_)
    exact hend v12 H locs 169 ls (Option.some.inj hf) hP hD hS dX12_sums_169
  have J_c133 : ∀ (τ : MS) (w1 : Int32) (w6 : Int64) (H : Heap) (locs : List Loc) (ls : Array Slot), F_X12_sums_c133 τ w1 w6 = some res → va_P z.1 vwCl (mW z r τ) H → va_D A (mW z r τ) → va_S A s.heap H locs → lv_has ls 8 [(0, .ref (r 0)), (1, .int w1), (6, .long w6)] → W p l e { frames := 3, cells := 0, slots := 0, locals := 72 } s m ([.ref (r 0)] : List Value).toArray below meth c H locs 0 0 Q (F0 m 133 ls []) := by
    intro τ w1 w6 H locs ls hf hP hD hS hl
    unfold F_X12_sums_c133 at hf
    refine lv_aload_n hx hb dX12_sums_133 rfl (lv_at hl 0 rfl) ?_
    refine lv_bipush (v := 29) hx hb dX12_sums_134 (by decide) ?_
    refine k_X12_on (a0 := (29 : Int32)) S hK hP tl_X12_118 ⟨Nat.le_of_ble_eq_true rfl, Nat.le_of_ble_eq_true rfl⟩ hl.1 (Nat.le_of_ble_eq_true rfl) dX12_sums_136 ?_
    refine gz_eq (tgt := 157) hx hb dX12_sums_139 (by decide) (fun c_139 => ?_) (fun c_139 => ?_)
    · rw [if_neg c_139] at hf
      exact J_c157 τ w6 H locs ls hf hP hD hS (lv_sub hl [0, 2] rfl)
    · rw [if_pos c_139] at hf
      refine lv_aload_n hx hb dX12_sums_142 rfl (lv_at hl 0 rfl) ?_
      refine lv_lload hx hb dX12_sums_143 (lv_at hl 2 rfl) ?_
      refine lv_iload_n hx hb dX12_sums_145 rfl (lv_at hl 1 rfl) ?_
      refine lv_aload_n hx hb dX12_sums_146 rfl (lv_at hl 0 rfl) ?_
      refine fg_X12_carry S hK hP tf_X12_51 dX12_sums_147 ?_
      refine lv_aload_n hx hb dX12_sums_150 rfl (lv_at hl 0 rfl) ?_
      refine fg_X12_over S hK hP tf_X12_54 dX12_sums_151 ?_
      refine k_X12_signs (a0 := w6) (a1 := w1) (a2 := (m_carry τ)) (a3 := (m_over τ)) S hK hA hP hD hS tl_X12_147 ⟨Nat.le_of_ble_eq_true rfl, Nat.le_of_ble_eq_true rfl⟩ hl.1 (Nat.le_of_ble_eq_true rfl) dX12_sums_154 (fun H locs hP hD hS => ?_)
      exact J_c157 (F_X12_signs τ w6 w1 (m_carry τ) (m_over τ)) w6 H locs ls hf hP hD hS (lv_sub hl [0, 2] rfl)
  have J_c50 : ∀ (τ : MS) (w1 : Int32) (w2 : Int64) (H : Heap) (locs : List Loc) (ls : Array Slot), F_X12_sums_c50 τ w1 w2 = some res → va_P z.1 vwCl (mW z r τ) H → va_D A (mW z r τ) → va_S A s.heap H locs → lv_has ls 8 [(0, .ref (r 0)), (1, .int w1), (2, .long w2)] → W p l e { frames := 3, cells := 0, slots := 0, locals := 72 } s m ([.ref (r 0)] : List Value).toArray below meth c H locs 0 0 Q (F0 m 50 ls []) := by
    intro τ w1 w2 H locs ls hf hP hD hS hl
    unfold F_X12_sums_c50 at hf
    refine lv_aload_n hx hb dX12_sums_50 rfl (lv_at hl 0 rfl) ?_
    refine lv_aload_n hx hb dX12_sums_51 rfl (lv_at hl 0 rfl) ?_
    refine lv_bipush (v := 20) hx hb dX12_sums_52 (by decide) ?_
    refine lv_bipush (v := 16) hx hb dX12_sums_54 (by decide) ?_
    obtain ⟨v5, e_v5, hf⟩ := Option.bind_eq_some_iff.mp hf
    refine k_X12_f (a0 := (20 : Int32)) (a1 := (16 : Int32)) (res := v5) (hres := e_v5) S hK hP tl_X12_121 ⟨Nat.le_of_ble_eq_true rfl, Nat.le_of_ble_eq_true rfl⟩ hl.1 (Nat.le_of_ble_eq_true rfl) dX12_sums_56 ?_
    obtain ⟨v6, e_v6, hf⟩ := Option.bind_eq_some_iff.mp hf
    refine k_X12_reg (a0 := v5) (res := v6) (hres := e_v6) S hK hP tl_X12_161 ⟨Nat.le_of_ble_eq_true rfl, Nat.le_of_ble_eq_true rfl⟩ hl.1 (Nat.le_of_ble_eq_true rfl) dX12_sums_59 ?_
    refine lv_iload_n hx hb dX12_sums_62 rfl (lv_at hl 1 rfl) ?_
    refine k_X12_cut (a0 := v6) (a1 := w1) S tl_X12_138 ⟨Nat.le_of_ble_eq_true rfl, Nat.le_of_ble_eq_true rfl⟩ hl.1 (Nat.le_of_ble_eq_true rfl) dX12_sums_63 ?_
    refine lv_aload_n hx hb dX12_sums_66 rfl (lv_at hl 0 rfl) ?_
    refine lv_bipush (v := 23) hx hb dX12_sums_67 (by decide) ?_
    refine lv_bipush (v := 22) hx hb dX12_sums_69 (by decide) ?_
    obtain ⟨v7, e_v7, hf⟩ := Option.bind_eq_some_iff.mp hf
    refine k_X12_f (a0 := (23 : Int32)) (a1 := (22 : Int32)) (res := v7) (hres := e_v7) S hK hP tl_X12_121 ⟨Nat.le_of_ble_eq_true rfl, Nat.le_of_ble_eq_true rfl⟩ hl.1 (Nat.le_of_ble_eq_true rfl) dX12_sums_71 ?_
    refine lv_aload_n hx hb dX12_sums_74 rfl (lv_at hl 0 rfl) ?_
    refine lv_bipush (v := 15) hx hb dX12_sums_75 (by decide) ?_
    refine lv_bipush (v := 10) hx hb dX12_sums_77 (by decide) ?_
    obtain ⟨v8, e_v8, hf⟩ := Option.bind_eq_some_iff.mp hf
    refine k_X12_f (a0 := (15 : Int32)) (a1 := (10 : Int32)) (res := v8) (hres := e_v8) S hK hP tl_X12_121 ⟨Nat.le_of_ble_eq_true rfl, Nat.le_of_ble_eq_true rfl⟩ hl.1 (Nat.le_of_ble_eq_true rfl) dX12_sums_79 ?_
    refine lv_iload_n hx hb dX12_sums_82 rfl (lv_at hl 1 rfl) ?_
    obtain ⟨v9, e_v9, hf⟩ := Option.bind_eq_some_iff.mp hf
    refine k_X12_moved (a0 := (F_X12_cut v6 w1)) (a1 := v7) (a2 := v8) (a3 := w1) (res := v9) (hres := e_v9) S tl_X12_164 ⟨Nat.le_of_ble_eq_true rfl, Nat.le_of_ble_eq_true rfl⟩ hl.1 (Nat.le_of_ble_eq_true rfl) dX12_sums_83 ?_
    refine lv_lstore (lv' := [(4, .long v9), (0, .ref (r 0)), (1, .int w1), (2, .long w2)]) hx hb dX12_sums_86 hl (by decide) rfl (fun ls hl => ?_)
    refine lv_lconst (v := 0) hx hb dX12_sums_88 (by decide) ?_
    refine lv_lstore (lv' := [(6, .long (0 : Int64)), (4, .long v9), (0, .ref (r 0)), (1, .int w1), (2, .long w2)]) hx hb dX12_sums_89 hl (by decide) rfl (fun ls hl => ?_)
    refine lv_aload_n hx hb dX12_sums_91 rfl (lv_at hl 2 rfl) ?_
    refine lv_bipush (v := 30) hx hb dX12_sums_92 (by decide) ?_
    refine k_X12_on (a0 := (30 : Int32)) S hK hP tl_X12_118 ⟨Nat.le_of_ble_eq_true rfl, Nat.le_of_ble_eq_true rfl⟩ hl.1 (Nat.le_of_ble_eq_true rfl) dX12_sums_94 ?_
    refine gz_eq (tgt := 122) hx hb dX12_sums_97 (by decide) (fun c_97 => ?_) (fun c_97 => ?_)
    · rw [if_neg c_97] at hf
      refine lv_aload_n hx hb dX12_sums_122 rfl (lv_at hl 2 rfl) ?_
      refine lv_lload_n hx hb dX12_sums_123 rfl (lv_at hl 4 rfl) ?_
      refine lv_lload hx hb dX12_sums_124 (lv_at hl 1 rfl) ?_
      refine lv_iconst (v := 0) hx hb dX12_sums_126 (by decide) ?_
      refine lv_iload_n hx hb dX12_sums_127 rfl (lv_at hl 3 rfl) ?_
      obtain ⟨v10, e_v10, hf⟩ := Option.bind_eq_some_iff.mp hf
      refine k_X12_sum (a0 := w2) (a1 := v9) (a2 := (0 : Int32)) (a3 := w1) (res := v10) (hres := e_v10) S hK hA hP hD hS tl_X12_143 ⟨Nat.le_of_ble_eq_true rfl, Nat.le_of_ble_eq_true rfl⟩ hl.1 (Nat.le_of_ble_eq_true rfl) dX12_sums_128 (fun H locs hP hD hS => ?_)
      refine lv_lstore (lv' := [(6, .long v10.1), (4, .long v9), (0, .ref (r 0)), (1, .int w1), (2, .long w2)]) hx hb dX12_sums_131 hl (by decide) rfl (fun ls hl => ?_)
      exact J_c133 v10.2 w1 v10.1 H locs ls hf hP hD hS (lv_sub hl [2, 3, 0] rfl)
    · rw [if_pos c_97] at hf
      refine lv_aload_n hx hb dX12_sums_100 rfl (lv_at hl 2 rfl) ?_
      refine lv_lload_n hx hb dX12_sums_101 rfl (lv_at hl 4 rfl) ?_
      refine lv_lload hx hb dX12_sums_102 (lv_at hl 1 rfl) ?_
      refine lv_ldc2 (v := -1) hx hb hown (hts _ tk_X12_141) dX12_sums_104 ?_
      refine lv_lxor hx hb dX12_sums_107 ?_
      refine lv_iload_n hx hb dX12_sums_108 rfl (lv_at hl 3 rfl) ?_
      refine k_X12_cut (a0 := (v9 ^^^ (-1 : Int64))) (a1 := w1) S tl_X12_138 ⟨Nat.le_of_ble_eq_true rfl, Nat.le_of_ble_eq_true rfl⟩ hl.1 (Nat.le_of_ble_eq_true rfl) dX12_sums_109 ?_
      refine lv_iconst (v := 1) hx hb dX12_sums_112 (by decide) ?_
      refine lv_iload_n hx hb dX12_sums_113 rfl (lv_at hl 3 rfl) ?_
      obtain ⟨v13, e_v13, hf⟩ := Option.bind_eq_some_iff.mp hf
      refine k_X12_sum (a0 := w2) (a1 := (F_X12_cut (v9 ^^^ (-1 : Int64)) w1)) (a2 := (1 : Int32)) (a3 := w1) (res := v13) (hres := e_v13) S hK hA hP hD hS tl_X12_143 ⟨Nat.le_of_ble_eq_true rfl, Nat.le_of_ble_eq_true rfl⟩ hl.1 (Nat.le_of_ble_eq_true rfl) dX12_sums_114 (fun H locs hP hD hS => ?_)
      refine lv_lstore (lv' := [(6, .long v13.1), (4, .long v9), (0, .ref (r 0)), (1, .int w1), (2, .long w2)]) hx hb dX12_sums_117 hl (by decide) rfl (fun ls hl => ?_)
      refine lv_goto (tgt := 133) hx hb dX12_sums_119 (by decide) ?_
      exact J_c133 v13.2 w1 v13.1 H locs ls hf hP hD hS (lv_sub hl [2, 3, 0] rfl)
  have J_c5 : ∀ (τ : MS) (w1 : Int32) (H : Heap) (locs : List Loc) (ls : Array Slot), F_X12_sums_c5 τ w1 = some res → va_P z.1 vwCl (mW z r τ) H → va_D A (mW z r τ) → va_S A s.heap H locs → lv_has ls 8 [(0, .ref (r 0)), (1, .int w1)] → W p l e { frames := 3, cells := 0, slots := 0, locals := 72 } s m ([.ref (r 0)] : List Value).toArray below meth c H locs 0 0 Q (F0 m 5 ls []) := by
    intro τ w1 H locs ls hf hP hD hS hl
    unfold F_X12_sums_c5 at hf
    refine lv_aload_n hx hb dX12_sums_5 rfl (lv_at hl 0 rfl) ?_
    refine lv_bipush (v := 23) hx hb dX12_sums_6 (by decide) ?_
    refine lv_bipush (v := 22) hx hb dX12_sums_8 (by decide) ?_
    obtain ⟨v1, e_v1, hf⟩ := Option.bind_eq_some_iff.mp hf
    refine k_X12_f (a0 := (23 : Int32)) (a1 := (22 : Int32)) (res := v1) (hres := e_v1) S hK hP tl_X12_121 ⟨Nat.le_of_ble_eq_true rfl, Nat.le_of_ble_eq_true rfl⟩ hl.1 (Nat.le_of_ble_eq_true rfl) dX12_sums_10 ?_
    refine lv_iconst (v := 3) hx hb dX12_sums_13 (by decide) ?_
    refine lv_icmp_eq (tgt := 29) hx hb dX12_sums_14 (by decide) (fun c_14 => ?_) (fun c_14 => ?_)
    · rw [if_pos c_14] at hf
      exact J_c29 τ H locs ls hf hP hD hS (lv_sub hl [0] rfl)
    · rw [if_neg c_14] at hf
      refine lv_aload_n hx hb dX12_sums_17 rfl (lv_at hl 0 rfl) ?_
      refine lv_bipush (v := 15) hx hb dX12_sums_18 (by decide) ?_
      refine lv_bipush (v := 10) hx hb dX12_sums_20 (by decide) ?_
      obtain ⟨v2, e_v2, hf⟩ := Option.bind_eq_some_iff.mp hf
      refine k_X12_f (a0 := (15 : Int32)) (a1 := (10 : Int32)) (res := v2) (hres := e_v2) S hK hP tl_X12_121 ⟨Nat.le_of_ble_eq_true rfl, Nat.le_of_ble_eq_true rfl⟩ hl.1 (Nat.le_of_ble_eq_true rfl) dX12_sums_22 ?_
      refine lv_iload_n hx hb dX12_sums_25 rfl (lv_at hl 1 rfl) ?_
      refine lv_icmp_lt (tgt := 34) hx hb dX12_sums_26 (by decide) (fun c_26 => ?_) (fun c_26 => ?_)
      · rw [if_pos c_26] at hf
        refine lv_aload_n hx hb dX12_sums_34 rfl (lv_at hl 0 rfl) ?_
        refine lv_aload_n hx hb dX12_sums_35 rfl (lv_at hl 0 rfl) ?_
        refine lv_bipush (v := 9) hx hb dX12_sums_36 (by decide) ?_
        refine lv_iconst (v := 5) hx hb dX12_sums_38 (by decide) ?_
        obtain ⟨v3, e_v3, hf⟩ := Option.bind_eq_some_iff.mp hf
        refine k_X12_f (a0 := (9 : Int32)) (a1 := (5 : Int32)) (res := v3) (hres := e_v3) S hK hP tl_X12_121 ⟨Nat.le_of_ble_eq_true rfl, Nat.le_of_ble_eq_true rfl⟩ hl.1 (Nat.le_of_ble_eq_true rfl) dX12_sums_39 ?_
        obtain ⟨v4, e_v4, hf⟩ := Option.bind_eq_some_iff.mp hf
        refine k_X12_reg (a0 := v3) (res := v4) (hres := e_v4) S hK hP tl_X12_161 ⟨Nat.le_of_ble_eq_true rfl, Nat.le_of_ble_eq_true rfl⟩ hl.1 (Nat.le_of_ble_eq_true rfl) dX12_sums_42 ?_
        refine lv_iload_n hx hb dX12_sums_45 rfl (lv_at hl 1 rfl) ?_
        refine k_X12_cut (a0 := v4) (a1 := w1) S tl_X12_138 ⟨Nat.le_of_ble_eq_true rfl, Nat.le_of_ble_eq_true rfl⟩ hl.1 (Nat.le_of_ble_eq_true rfl) dX12_sums_46 ?_
        refine lv_lstore_n (lv' := [(2, .long (F_X12_cut v4 w1)), (0, .ref (r 0)), (1, .int w1)]) hx hb dX12_sums_49 rfl hl (by decide) rfl (fun ls hl => ?_)
        exact J_c50 τ w1 (F_X12_cut v4 w1) H locs ls hf hP hD hS (lv_sub hl [1, 2, 0] rfl)
      · rw [if_neg c_26] at hf
        exact J_c29 τ H locs ls hf hP hD hS (lv_sub hl [0] rfl)
  unfold F_X12_sums at hf
  refine lv_aload_n hx hb dX12_sums_0 rfl (lv_at hl 0 rfl) ?_
  refine k_X12_width S hK hP tl_X12_129 ⟨Nat.le_of_ble_eq_true rfl, Nat.le_of_ble_eq_true rfl⟩ hl.1 (Nat.le_of_ble_eq_true rfl) dX12_sums_1 ?_
  refine lv_istore_n (lv' := [(1, .int (F_X12_width σ)), (0, .ref (r 0))]) hx hb dX12_sums_4 rfl hl (by decide) rfl (fun ls hl => ?_)
  exact J_c5 σ (F_X12_width σ) H locs ls hf hP hD hS (lv_sub hl [1, 0] rfl)
theorem k_X12_sums {p : Program} {l : Launch} {e : Env} {R : Room} {s : State} {m : MethodId} {args : Array Value} {below : List Frame} {meth : Method} {c : Code} {H : Heap} {locs : List Loc} {Q : State → Prop} {cc : ByteArray} {pc : Nat} {ls : Array Slot} {rest : List Value} {own : String} {index nL : Nat} {A : Nat → Prop} {z : Cx} {r : Nat → Nat} {σ : MS} {res : MS} (hres : F_X12_sums σ = some res) (S : CallFix p m c cc nL s args tbG own) (hK : va_K z.1 vwCl (cxT z) s) (hA : ∀ q, s.heap.size ≤ q → A q) (hP : va_P z.1 vwCl (mW z r σ) H) (hD : va_D A (mW z r σ)) (hS : va_S A s.heap H locs) (hl : Cond.methodLink own index yX12_sums ∈ tbG) (hR : 3 + 1 ≤ R.frames ∧ 8 + (8 + 11) + 72 ≤ R.locals) (hsz : ls.size = nL) (hcat : (rest.map fun v => v.category).sum ≤ 8) (hdg : decode cc pc = .ok (.invokevirtual index, 3)) (kk : ∀ (H : Heap) (locs : List Loc), va_P z.1 vwCl (mW z r res) H → va_D A (mW z r res) → va_S A s.heap H locs → W p l e R s m args below meth c H locs 0 0 Q (F0 m (pc + 3) ls (rest))) : W p l e R s m args below meth c H locs 0 0 Q (F0 m pc ls (.ref (r 0) :: rest)) :=
  km (As := []) (ov := none) (w' := mW z r res) (q0 := 0) (ci := 11) S hK hA hP hD hS (c_X12_sums l z r σ H.size _ hres) ⟨tb_cB 0 S.2.2.2.2 tc_X12_sums ti_X12 hl rfl rfl (by decide +kernel) hR, S.2.2.2.2 _ tm_X12_sums, S.2.2.2.2 _ te_X12_sums⟩ rfl rfl rfl rfl hsz rfl hcat hdg kk

theorem dX12_joined_0 : decode cX12_joined 0 = .ok (.iload_n 1, 1) := by decide +kernel
theorem dX12_joined_1 : decode cX12_joined 1 = .ok (.iconst 1, 1) := by decide +kernel
theorem dX12_joined_2 : decode cX12_joined 2 = .ok (.if_icmp .ne 8, 3) := by decide +kernel
theorem dX12_joined_5 : decode cX12_joined 5 = .ok (.lload_n 2, 1) := by decide +kernel
theorem dX12_joined_6 : decode cX12_joined 6 = .ok (.lload 4, 2) := by decide +kernel
theorem dX12_joined_8 : decode cX12_joined 8 = .ok (.lor, 1) := by decide +kernel
theorem dX12_joined_9 : decode cX12_joined 9 = .ok (.lreturn, 1) := by decide +kernel
theorem dX12_joined_10 : decode cX12_joined 10 = .ok (.iload_n 1, 1) := by decide +kernel
theorem dX12_joined_11 : decode cX12_joined 11 = .ok (.iconst 2, 1) := by decide +kernel
theorem dX12_joined_12 : decode cX12_joined 12 = .ok (.if_icmp .ne 8, 3) := by decide +kernel
theorem dX12_joined_15 : decode cX12_joined 15 = .ok (.lload_n 2, 1) := by decide +kernel
theorem dX12_joined_16 : decode cX12_joined 16 = .ok (.lload 4, 2) := by decide +kernel
theorem dX12_joined_18 : decode cX12_joined 18 = .ok (.lxor, 1) := by decide +kernel
theorem dX12_joined_19 : decode cX12_joined 19 = .ok (.lreturn, 1) := by decide +kernel
theorem dX12_joined_20 : decode cX12_joined 20 = .ok (.lload_n 2, 1) := by decide +kernel
theorem dX12_joined_21 : decode cX12_joined 21 = .ok (.lload 4, 2) := by decide +kernel
theorem dX12_joined_23 : decode cX12_joined 23 = .ok (.land, 1) := by decide +kernel
theorem dX12_joined_24 : decode cX12_joined 24 = .ok (.lreturn, 1) := by decide +kernel
def F_X12_joined (σ : MS) (a0 : Int32) (a1 : Int64) (a2 : Int64) : Int64 := (if a0 = (1 : Int32) then (a1 ||| a2) else (if a0 = (2 : Int32) then (a1 ^^^ a2) else (a1 &&& a2)))
set_option maxHeartbeats 4000000 in
set_option maxRecDepth 100000 in
theorem c_X12_joined (l : Launch) (z : Cx) (r : Nat → Nat) (σ : MS) (a0 : Int32) (a1 : Int64) (a2 : Int64) (res : Int64) (hf : F_X12_joined σ a0 a1 a2 = res) : Met l yX12_joined (wsC yX12_joined cX12_joined 6 (some .long)) { frames := 0, cells := 0, slots := 0, locals := 0 } (rPc z (mW z r σ) [.ref (r 0), .int a0, .long a1, .long a2]) (gS (some (.long res))) 0 0 (fun _ => False) := by
  refine mk_r_l (own := RX12) (by decide) rfl _ (Nat.le_of_ble_eq_true rfl) (fun p e s m below meth c H locs Q ls S hK hP hl hend => ?_)
  have hx := S.1
  have hb := S.2.1
  have hown := S.2.2.2.1
  have hts := S.2.2.2.2
  have hl : lv_has ls 6 [(0, .ref (r 0)), (1, .int a0), (2, .long a1), (4, .long a2)] := hl
  unfold F_X12_joined at hf
  refine lv_iload_n hx hb dX12_joined_0 rfl (lv_at hl 1 rfl) ?_
  refine lv_iconst (v := 1) hx hb dX12_joined_1 (by decide) ?_
  refine lv_icmp_ne (tgt := 10) hx hb dX12_joined_2 (by decide) (fun c_2 => ?_) (fun c_2 => ?_)
  · rw [if_neg c_2] at hf
    refine lv_iload_n hx hb dX12_joined_10 rfl (lv_at hl 1 rfl) ?_
    refine lv_iconst (v := 2) hx hb dX12_joined_11 (by decide) ?_
    refine lv_icmp_ne (tgt := 20) hx hb dX12_joined_12 (by decide) (fun c_12 => ?_) (fun c_12 => ?_)
    · rw [if_neg c_12] at hf
      refine lv_lload_n hx hb dX12_joined_20 rfl (lv_at hl 2 rfl) ?_
      refine lv_lload hx hb dX12_joined_21 (lv_at hl 3 rfl) ?_
      refine lv_land hx hb dX12_joined_23 ?_
      exact hend (a1 &&& a2) 24 ls hf dX12_joined_24
    · rw [if_pos c_12] at hf
      refine lv_lload_n hx hb dX12_joined_15 rfl (lv_at hl 2 rfl) ?_
      refine lv_lload hx hb dX12_joined_16 (lv_at hl 3 rfl) ?_
      refine lv_lxor hx hb dX12_joined_18 ?_
      exact hend (a1 ^^^ a2) 19 ls hf dX12_joined_19
  · rw [if_pos c_2] at hf
    refine lv_lload_n hx hb dX12_joined_5 rfl (lv_at hl 2 rfl) ?_
    refine lv_lload hx hb dX12_joined_6 (lv_at hl 3 rfl) ?_
    refine lv_lor hx hb dX12_joined_8 ?_
    exact hend (a1 ||| a2) 9 ls hf dX12_joined_9
theorem k_X12_joined {p : Program} {l : Launch} {e : Env} {R : Room} {s : State} {m : MethodId} {args : Array Value} {below : List Frame} {meth : Method} {c : Code} {H : Heap} {locs : List Loc} {Q : State → Prop} {cc : ByteArray} {pc : Nat} {ls : Array Slot} {rest : List Value} {own : String} {index nL : Nat} {z : Cx} {r : Nat → Nat} {σ : MS} {a0 : Int32} {a1 : Int64} {a2 : Int64} (S : CallFix p m c cc nL s args tbG own) (hK : va_K z.1 vwCl (cxT z) s) (hP : va_P z.1 vwCl (mW z r σ) H) (hl : Cond.methodLink own index yX12_joined ∈ tbG) (hR : 0 + 1 ≤ R.frames ∧ 8 + (6 + 11) + 0 ≤ R.locals) (hsz : ls.size = nL) (hcat : (rest.map fun v => v.category).sum ≤ 8) (hdg : decode cc pc = .ok (.invokevirtual index, 3)) (kk : W p l e R s m args below meth c H locs 0 0 Q (F0 m (pc + 3) ls (.long (F_X12_joined σ a0 a1 a2) :: rest))) : W p l e R s m args below meth c H locs 0 0 Q (F0 m pc ls (.long a2 :: .long a1 :: .int a0 :: .ref (r 0) :: rest)) :=
  kr (As := [.int a0, .long a1, .long a2]) (ov := some (.long (F_X12_joined σ a0 a1 a2))) (q0 := 0) (ci := 11) S hK hP (c_X12_joined l z r σ a0 a1 a2 _ rfl) ⟨tb_cB 3 S.2.2.2.2 tc_X12_joined ti_X12 hl rfl rfl (by decide +kernel) hR, S.2.2.2.2 _ tm_X12_joined, S.2.2.2.2 _ te_X12_joined⟩ rfl rfl rfl rfl hsz rfl hcat hdg kk

theorem dX12_logic_0 : decode cX12_logic 0 = .ok (.aload_n 0, 1) := by decide +kernel
theorem dX12_logic_1 : decode cX12_logic 1 = .ok (.invokevirtual 129, 3) := by decide +kernel
theorem dX12_logic_4 : decode cX12_logic 4 = .ok (.istore_n 1, 1) := by decide +kernel
theorem dX12_logic_5 : decode cX12_logic 5 = .ok (.aload_n 0, 1) := by decide +kernel
theorem dX12_logic_6 : decode cX12_logic 6 = .ok (.bipush 15, 2) := by decide +kernel
theorem dX12_logic_8 : decode cX12_logic 8 = .ok (.bipush 10, 2) := by decide +kernel
theorem dX12_logic_10 : decode cX12_logic 10 = .ok (.invokevirtual 121, 3) := by decide +kernel
theorem dX12_logic_13 : decode cX12_logic 13 = .ok (.iload_n 1, 1) := by decide +kernel
theorem dX12_logic_14 : decode cX12_logic 14 = .ok (.if_icmp .lt 8, 3) := by decide +kernel
theorem dX12_logic_17 : decode cX12_logic 17 = .ok (.aload_n 0, 1) := by decide +kernel
theorem dX12_logic_18 : decode cX12_logic 18 = .ok (.invokevirtual 158, 3) := by decide +kernel
theorem dX12_logic_21 : decode cX12_logic 21 = .ok (.return_, 1) := by decide +kernel
theorem dX12_logic_22 : decode cX12_logic 22 = .ok (.aload_n 0, 1) := by decide +kernel
theorem dX12_logic_23 : decode cX12_logic 23 = .ok (.aload_n 0, 1) := by decide +kernel
theorem dX12_logic_24 : decode cX12_logic 24 = .ok (.bipush 20, 2) := by decide +kernel
theorem dX12_logic_26 : decode cX12_logic 26 = .ok (.bipush 16, 2) := by decide +kernel
theorem dX12_logic_28 : decode cX12_logic 28 = .ok (.invokevirtual 121, 3) := by decide +kernel
theorem dX12_logic_31 : decode cX12_logic 31 = .ok (.invokevirtual 161, 3) := by decide +kernel
theorem dX12_logic_34 : decode cX12_logic 34 = .ok (.iload_n 1, 1) := by decide +kernel
theorem dX12_logic_35 : decode cX12_logic 35 = .ok (.invokestatic 138, 3) := by decide +kernel
theorem dX12_logic_38 : decode cX12_logic 38 = .ok (.aload_n 0, 1) := by decide +kernel
theorem dX12_logic_39 : decode cX12_logic 39 = .ok (.bipush 23, 2) := by decide +kernel
theorem dX12_logic_41 : decode cX12_logic 41 = .ok (.bipush 22, 2) := by decide +kernel
theorem dX12_logic_43 : decode cX12_logic 43 = .ok (.invokevirtual 121, 3) := by decide +kernel
theorem dX12_logic_46 : decode cX12_logic 46 = .ok (.aload_n 0, 1) := by decide +kernel
theorem dX12_logic_47 : decode cX12_logic 47 = .ok (.bipush 15, 2) := by decide +kernel
theorem dX12_logic_49 : decode cX12_logic 49 = .ok (.bipush 10, 2) := by decide +kernel
theorem dX12_logic_51 : decode cX12_logic 51 = .ok (.invokevirtual 121, 3) := by decide +kernel
theorem dX12_logic_54 : decode cX12_logic 54 = .ok (.iload_n 1, 1) := by decide +kernel
theorem dX12_logic_55 : decode cX12_logic 55 = .ok (.invokestatic 164, 3) := by decide +kernel
theorem dX12_logic_58 : decode cX12_logic 58 = .ok (.lstore_n 2, 1) := by decide +kernel
theorem dX12_logic_59 : decode cX12_logic 59 = .ok (.aload_n 0, 1) := by decide +kernel
theorem dX12_logic_60 : decode cX12_logic 60 = .ok (.bipush 21, 2) := by decide +kernel
theorem dX12_logic_62 : decode cX12_logic 62 = .ok (.invokevirtual 118, 3) := by decide +kernel
theorem dX12_logic_65 : decode cX12_logic 65 = .ok (.ifCond .eq 13, 3) := by decide +kernel
theorem dX12_logic_68 : decode cX12_logic 68 = .ok (.lload_n 2, 1) := by decide +kernel
theorem dX12_logic_69 : decode cX12_logic 69 = .ok (.ldc2_w 141, 3) := by decide +kernel
theorem dX12_logic_72 : decode cX12_logic 72 = .ok (.lxor, 1) := by decide +kernel
theorem dX12_logic_73 : decode cX12_logic 73 = .ok (.iload_n 1, 1) := by decide +kernel
theorem dX12_logic_74 : decode cX12_logic 74 = .ok (.invokestatic 138, 3) := by decide +kernel
theorem dX12_logic_77 : decode cX12_logic 77 = .ok (.lstore_n 2, 1) := by decide +kernel
theorem dX12_logic_78 : decode cX12_logic 78 = .ok (.aload_n 0, 1) := by decide +kernel
theorem dX12_logic_79 : decode cX12_logic 79 = .ok (.aload_n 0, 1) := by decide +kernel
theorem dX12_logic_80 : decode cX12_logic 80 = .ok (.bipush 30, 2) := by decide +kernel
theorem dX12_logic_82 : decode cX12_logic 82 = .ok (.bipush 29, 2) := by decide +kernel
theorem dX12_logic_84 : decode cX12_logic 84 = .ok (.invokevirtual 121, 3) := by decide +kernel
theorem dX12_logic_87 : decode cX12_logic 87 = .ok (.aload_n 0, 1) := by decide +kernel
theorem dX12_logic_88 : decode cX12_logic 88 = .ok (.aload_n 0, 1) := by decide +kernel
theorem dX12_logic_89 : decode cX12_logic 89 = .ok (.bipush 9, 2) := by decide +kernel
theorem dX12_logic_91 : decode cX12_logic 91 = .ok (.iconst 5, 1) := by decide +kernel
theorem dX12_logic_92 : decode cX12_logic 92 = .ok (.invokevirtual 121, 3) := by decide +kernel
theorem dX12_logic_95 : decode cX12_logic 95 = .ok (.invokevirtual 161, 3) := by decide +kernel
theorem dX12_logic_98 : decode cX12_logic 98 = .ok (.iload_n 1, 1) := by decide +kernel
theorem dX12_logic_99 : decode cX12_logic 99 = .ok (.invokestatic 138, 3) := by decide +kernel
theorem dX12_logic_102 : decode cX12_logic 102 = .ok (.lload_n 2, 1) := by decide +kernel
theorem dX12_logic_103 : decode cX12_logic 103 = .ok (.invokevirtual 168, 3) := by decide +kernel
theorem dX12_logic_106 : decode cX12_logic 106 = .ok (.lstore 4, 2) := by decide +kernel
theorem dX12_logic_108 : decode cX12_logic 108 = .ok (.aload_n 0, 1) := by decide +kernel
theorem dX12_logic_109 : decode cX12_logic 109 = .ok (.bipush 30, 2) := by decide +kernel
theorem dX12_logic_111 : decode cX12_logic 111 = .ok (.bipush 29, 2) := by decide +kernel
theorem dX12_logic_113 : decode cX12_logic 113 = .ok (.invokevirtual 121, 3) := by decide +kernel
theorem dX12_logic_116 : decode cX12_logic 116 = .ok (.iconst 3, 1) := by decide +kernel
theorem dX12_logic_117 : decode cX12_logic 117 = .ok (.if_icmp .ne 12, 3) := by decide +kernel
theorem dX12_logic_120 : decode cX12_logic 120 = .ok (.aload_n 0, 1) := by decide +kernel
theorem dX12_logic_121 : decode cX12_logic 121 = .ok (.lload 4, 2) := by decide +kernel
theorem dX12_logic_123 : decode cX12_logic 123 = .ok (.iload_n 1, 1) := by decide +kernel
theorem dX12_logic_124 : decode cX12_logic 124 = .ok (.iconst 0, 1) := by decide +kernel
theorem dX12_logic_125 : decode cX12_logic 125 = .ok (.iconst 0, 1) := by decide +kernel
theorem dX12_logic_126 : decode cX12_logic 126 = .ok (.invokevirtual 147, 3) := by decide +kernel
theorem dX12_logic_129 : decode cX12_logic 129 = .ok (.aload_n 0, 1) := by decide +kernel
theorem dX12_logic_130 : decode cX12_logic 130 = .ok (.aload_n 0, 1) := by decide +kernel
theorem dX12_logic_131 : decode cX12_logic 131 = .ok (.iconst 4, 1) := by decide +kernel
theorem dX12_logic_132 : decode cX12_logic 132 = .ok (.iconst 0, 1) := by decide +kernel
theorem dX12_logic_133 : decode cX12_logic 133 = .ok (.invokevirtual 121, 3) := by decide +kernel
theorem dX12_logic_136 : decode cX12_logic 136 = .ok (.lload 4, 2) := by decide +kernel
theorem dX12_logic_138 : decode cX12_logic 138 = .ok (.invokevirtual 151, 3) := by decide +kernel
theorem dX12_logic_141 : decode cX12_logic 141 = .ok (.return_, 1) := by decide +kernel
def F_X12_logic_c129 (τ : MS) (w4 : Int64) : Option (MS) := ((F_X12_f τ (4 : Int32) (0 : Int32)).bind fun v11 => ((F_X12_put τ v11 w4).bind fun v12 => some (v12)))
def F_X12_logic_c108 (τ : MS) (w1 : Int32) (w4 : Int64) : Option (MS) := ((F_X12_f τ (30 : Int32) (29 : Int32)).bind fun v10 => (if v10 = (3 : Int32) then (F_X12_logic_c129 (F_X12_signs τ w4 w1 (0 : Int32) (0 : Int32)) w4) else (F_X12_logic_c129 τ w4)))
def F_X12_logic_c78 (τ : MS) (w1 : Int32) (w2 : Int64) : Option (MS) := ((F_X12_f τ (30 : Int32) (29 : Int32)).bind fun v7 => ((F_X12_f τ (9 : Int32) (5 : Int32)).bind fun v8 => ((F_X12_reg τ v8).bind fun v9 => (F_X12_logic_c108 τ w1 (F_X12_joined τ v7 (F_X12_cut v9 w1) w2)))))
def F_X12_logic_c5 (τ : MS) (w1 : Int32) : Option (MS) := ((F_X12_f τ (15 : Int32) (10 : Int32)).bind fun v1 => (if v1 < w1 then ((F_X12_f τ (20 : Int32) (16 : Int32)).bind fun v2 => ((F_X12_reg τ v2).bind fun v3 => ((F_X12_f τ (23 : Int32) (22 : Int32)).bind fun v4 => ((F_X12_f τ (15 : Int32) (10 : Int32)).bind fun v5 => ((F_X12_moved (F_X12_cut v3 w1) v4 v5 w1).bind fun v6 => (if (F_X12_on τ (21 : Int32)) = true then (F_X12_logic_c78 τ w1 (F_X12_cut (v6 ^^^ (-1 : Int64)) w1)) else (F_X12_logic_c78 τ w1 v6))))))) else some ((F_X12_none τ))))
def F_X12_logic (σ : MS)  : Option (MS) := (F_X12_logic_c5 σ (F_X12_width σ))
set_option maxHeartbeats 4000000 in
set_option maxRecDepth 100000 in
theorem c_X12_logic (l : Launch) (z : Cx) (r : Nat → Nat) (σ : MS) (sz : Nat) (res : MS) (hf : F_X12_logic σ = some res) : Met l yX12_logic (wsC yX12_logic cX12_logic 6 none) { frames := 3, cells := 0, slots := 0, locals := 72 } (mPc z (mW z r σ) sz [.ref (r 0)]) (gM z (va_A (mW z r σ) sz) none (mW z r res)) 0 0 (va_A (mW z r σ) sz) := by
  refine mk_m_v (own := RX12) (wf := mW z r) (by decide) rfl sz _ (Nat.le_of_ble_eq_true rfl) (fun p e s m below meth c A H locs Q ls S hK hA hP hD hS hl hend => ?_)
  have hx := S.1
  have hb := S.2.1
  have hown := S.2.2.2.1
  have hts := S.2.2.2.2
  have hl : lv_has ls 6 [(0, .ref (r 0))] := hl
  have J_c129 : ∀ (τ : MS) (w4 : Int64) (H : Heap) (locs : List Loc) (ls : Array Slot), F_X12_logic_c129 τ w4 = some res → va_P z.1 vwCl (mW z r τ) H → va_D A (mW z r τ) → va_S A s.heap H locs → lv_has ls 6 [(0, .ref (r 0)), (4, .long w4)] → W p l e { frames := 3, cells := 0, slots := 0, locals := 72 } s m ([.ref (r 0)] : List Value).toArray below meth c H locs 0 0 Q (F0 m 129 ls []) := by
    intro τ w4 H locs ls hf hP hD hS hl
    unfold F_X12_logic_c129 at hf
    refine lv_aload_n hx hb dX12_logic_129 rfl (lv_at hl 0 rfl) ?_
    refine lv_aload_n hx hb dX12_logic_130 rfl (lv_at hl 0 rfl) ?_
    refine lv_iconst (v := 4) hx hb dX12_logic_131 (by decide) ?_
    refine lv_iconst (v := 0) hx hb dX12_logic_132 (by decide) ?_
    obtain ⟨v11, e_v11, hf⟩ := Option.bind_eq_some_iff.mp hf
    refine k_X12_f (a0 := (4 : Int32)) (a1 := (0 : Int32)) (res := v11) (hres := e_v11) S hK hP tl_X12_121 ⟨Nat.le_of_ble_eq_true rfl, Nat.le_of_ble_eq_true rfl⟩ hl.1 (Nat.le_of_ble_eq_true rfl) dX12_logic_133 ?_
    refine lv_lload hx hb dX12_logic_136 (lv_at hl 1 rfl) ?_
    obtain ⟨v12, e_v12, hf⟩ := Option.bind_eq_some_iff.mp hf
    refine k_X12_put (a0 := v11) (a1 := w4) (res := v12) (hres := e_v12) S hK hA hP hD hS tl_X12_151 ⟨Nat.le_of_ble_eq_true rfl, Nat.le_of_ble_eq_true rfl⟩ hl.1 (Nat.le_of_ble_eq_true rfl) dX12_logic_138 (fun H locs hP hD hS => ?_)
    exact hend v12 H locs 141 ls (Option.some.inj hf) hP hD hS dX12_logic_141
  have J_c108 : ∀ (τ : MS) (w1 : Int32) (w4 : Int64) (H : Heap) (locs : List Loc) (ls : Array Slot), F_X12_logic_c108 τ w1 w4 = some res → va_P z.1 vwCl (mW z r τ) H → va_D A (mW z r τ) → va_S A s.heap H locs → lv_has ls 6 [(0, .ref (r 0)), (1, .int w1), (4, .long w4)] → W p l e { frames := 3, cells := 0, slots := 0, locals := 72 } s m ([.ref (r 0)] : List Value).toArray below meth c H locs 0 0 Q (F0 m 108 ls []) := by
    intro τ w1 w4 H locs ls hf hP hD hS hl
    unfold F_X12_logic_c108 at hf
    refine lv_aload_n hx hb dX12_logic_108 rfl (lv_at hl 0 rfl) ?_
    refine lv_bipush (v := 30) hx hb dX12_logic_109 (by decide) ?_
    refine lv_bipush (v := 29) hx hb dX12_logic_111 (by decide) ?_
    obtain ⟨v10, e_v10, hf⟩ := Option.bind_eq_some_iff.mp hf
    refine k_X12_f (a0 := (30 : Int32)) (a1 := (29 : Int32)) (res := v10) (hres := e_v10) S hK hP tl_X12_121 ⟨Nat.le_of_ble_eq_true rfl, Nat.le_of_ble_eq_true rfl⟩ hl.1 (Nat.le_of_ble_eq_true rfl) dX12_logic_113 ?_
    refine lv_iconst (v := 3) hx hb dX12_logic_116 (by decide) ?_
    refine lv_icmp_ne (tgt := 129) hx hb dX12_logic_117 (by decide) (fun c_117 => ?_) (fun c_117 => ?_)
    · rw [if_neg c_117] at hf
      exact J_c129 τ w4 H locs ls hf hP hD hS (lv_sub hl [0, 2] rfl)
    · rw [if_pos c_117] at hf
      refine lv_aload_n hx hb dX12_logic_120 rfl (lv_at hl 0 rfl) ?_
      refine lv_lload hx hb dX12_logic_121 (lv_at hl 2 rfl) ?_
      refine lv_iload_n hx hb dX12_logic_123 rfl (lv_at hl 1 rfl) ?_
      refine lv_iconst (v := 0) hx hb dX12_logic_124 (by decide) ?_
      refine lv_iconst (v := 0) hx hb dX12_logic_125 (by decide) ?_
      refine k_X12_signs (a0 := w4) (a1 := w1) (a2 := (0 : Int32)) (a3 := (0 : Int32)) S hK hA hP hD hS tl_X12_147 ⟨Nat.le_of_ble_eq_true rfl, Nat.le_of_ble_eq_true rfl⟩ hl.1 (Nat.le_of_ble_eq_true rfl) dX12_logic_126 (fun H locs hP hD hS => ?_)
      exact J_c129 (F_X12_signs τ w4 w1 (0 : Int32) (0 : Int32)) w4 H locs ls hf hP hD hS (lv_sub hl [0, 2] rfl)
  have J_c78 : ∀ (τ : MS) (w1 : Int32) (w2 : Int64) (H : Heap) (locs : List Loc) (ls : Array Slot), F_X12_logic_c78 τ w1 w2 = some res → va_P z.1 vwCl (mW z r τ) H → va_D A (mW z r τ) → va_S A s.heap H locs → lv_has ls 6 [(0, .ref (r 0)), (1, .int w1), (2, .long w2)] → W p l e { frames := 3, cells := 0, slots := 0, locals := 72 } s m ([.ref (r 0)] : List Value).toArray below meth c H locs 0 0 Q (F0 m 78 ls []) := by
    intro τ w1 w2 H locs ls hf hP hD hS hl
    unfold F_X12_logic_c78 at hf
    refine lv_aload_n hx hb dX12_logic_78 rfl (lv_at hl 0 rfl) ?_
    refine lv_aload_n hx hb dX12_logic_79 rfl (lv_at hl 0 rfl) ?_
    refine lv_bipush (v := 30) hx hb dX12_logic_80 (by decide) ?_
    refine lv_bipush (v := 29) hx hb dX12_logic_82 (by decide) ?_
    obtain ⟨v7, e_v7, hf⟩ := Option.bind_eq_some_iff.mp hf
    refine k_X12_f (a0 := (30 : Int32)) (a1 := (29 : Int32)) (res := v7) (hres := e_v7) S hK hP tl_X12_121 ⟨Nat.le_of_ble_eq_true rfl, Nat.le_of_ble_eq_true rfl⟩ hl.1 (Nat.le_of_ble_eq_true rfl) dX12_logic_84 ?_
    refine lv_aload_n hx hb dX12_logic_87 rfl (lv_at hl 0 rfl) ?_
    refine lv_aload_n hx hb dX12_logic_88 rfl (lv_at hl 0 rfl) ?_
    refine lv_bipush (v := 9) hx hb dX12_logic_89 (by decide) ?_
    refine lv_iconst (v := 5) hx hb dX12_logic_91 (by decide) ?_
    obtain ⟨v8, e_v8, hf⟩ := Option.bind_eq_some_iff.mp hf
    refine k_X12_f (a0 := (9 : Int32)) (a1 := (5 : Int32)) (res := v8) (hres := e_v8) S hK hP tl_X12_121 ⟨Nat.le_of_ble_eq_true rfl, Nat.le_of_ble_eq_true rfl⟩ hl.1 (Nat.le_of_ble_eq_true rfl) dX12_logic_92 ?_
    obtain ⟨v9, e_v9, hf⟩ := Option.bind_eq_some_iff.mp hf
    refine k_X12_reg (a0 := v8) (res := v9) (hres := e_v9) S hK hP tl_X12_161 ⟨Nat.le_of_ble_eq_true rfl, Nat.le_of_ble_eq_true rfl⟩ hl.1 (Nat.le_of_ble_eq_true rfl) dX12_logic_95 ?_
    refine lv_iload_n hx hb dX12_logic_98 rfl (lv_at hl 1 rfl) ?_
    refine k_X12_cut (a0 := v9) (a1 := w1) S tl_X12_138 ⟨Nat.le_of_ble_eq_true rfl, Nat.le_of_ble_eq_true rfl⟩ hl.1 (Nat.le_of_ble_eq_true rfl) dX12_logic_99 ?_
    refine lv_lload_n hx hb dX12_logic_102 rfl (lv_at hl 2 rfl) ?_
    refine k_X12_joined (a0 := v7) (a1 := (F_X12_cut v9 w1)) (a2 := w2) S hK hP tl_X12_168 ⟨Nat.le_of_ble_eq_true rfl, Nat.le_of_ble_eq_true rfl⟩ hl.1 (Nat.le_of_ble_eq_true rfl) dX12_logic_103 ?_
    refine lv_lstore (lv' := [(4, .long (F_X12_joined τ v7 (F_X12_cut v9 w1) w2)), (0, .ref (r 0)), (1, .int w1), (2, .long w2)]) hx hb dX12_logic_106 hl (by decide) rfl (fun ls hl => ?_)
    exact J_c108 τ w1 (F_X12_joined τ v7 (F_X12_cut v9 w1) w2) H locs ls hf hP hD hS (lv_sub hl [1, 2, 0] rfl)
  have J_c5 : ∀ (τ : MS) (w1 : Int32) (H : Heap) (locs : List Loc) (ls : Array Slot), F_X12_logic_c5 τ w1 = some res → va_P z.1 vwCl (mW z r τ) H → va_D A (mW z r τ) → va_S A s.heap H locs → lv_has ls 6 [(0, .ref (r 0)), (1, .int w1)] → W p l e { frames := 3, cells := 0, slots := 0, locals := 72 } s m ([.ref (r 0)] : List Value).toArray below meth c H locs 0 0 Q (F0 m 5 ls []) := by
    intro τ w1 H locs ls hf hP hD hS hl
    unfold F_X12_logic_c5 at hf
    refine lv_aload_n hx hb dX12_logic_5 rfl (lv_at hl 0 rfl) ?_
    refine lv_bipush (v := 15) hx hb dX12_logic_6 (by decide) ?_
    refine lv_bipush (v := 10) hx hb dX12_logic_8 (by decide) ?_
    obtain ⟨v1, e_v1, hf⟩ := Option.bind_eq_some_iff.mp hf
    refine k_X12_f (a0 := (15 : Int32)) (a1 := (10 : Int32)) (res := v1) (hres := e_v1) S hK hP tl_X12_121 ⟨Nat.le_of_ble_eq_true rfl, Nat.le_of_ble_eq_true rfl⟩ hl.1 (Nat.le_of_ble_eq_true rfl) dX12_logic_10 ?_
    refine lv_iload_n hx hb dX12_logic_13 rfl (lv_at hl 1 rfl) ?_
    refine lv_icmp_lt (tgt := 22) hx hb dX12_logic_14 (by decide) (fun c_14 => ?_) (fun c_14 => ?_)
    · rw [if_pos c_14] at hf
      refine lv_aload_n hx hb dX12_logic_22 rfl (lv_at hl 0 rfl) ?_
      refine lv_aload_n hx hb dX12_logic_23 rfl (lv_at hl 0 rfl) ?_
      refine lv_bipush (v := 20) hx hb dX12_logic_24 (by decide) ?_
      refine lv_bipush (v := 16) hx hb dX12_logic_26 (by decide) ?_
      obtain ⟨v2, e_v2, hf⟩ := Option.bind_eq_some_iff.mp hf
      refine k_X12_f (a0 := (20 : Int32)) (a1 := (16 : Int32)) (res := v2) (hres := e_v2) S hK hP tl_X12_121 ⟨Nat.le_of_ble_eq_true rfl, Nat.le_of_ble_eq_true rfl⟩ hl.1 (Nat.le_of_ble_eq_true rfl) dX12_logic_28 ?_
      obtain ⟨v3, e_v3, hf⟩ := Option.bind_eq_some_iff.mp hf
      refine k_X12_reg (a0 := v2) (res := v3) (hres := e_v3) S hK hP tl_X12_161 ⟨Nat.le_of_ble_eq_true rfl, Nat.le_of_ble_eq_true rfl⟩ hl.1 (Nat.le_of_ble_eq_true rfl) dX12_logic_31 ?_
      refine lv_iload_n hx hb dX12_logic_34 rfl (lv_at hl 1 rfl) ?_
      refine k_X12_cut (a0 := v3) (a1 := w1) S tl_X12_138 ⟨Nat.le_of_ble_eq_true rfl, Nat.le_of_ble_eq_true rfl⟩ hl.1 (Nat.le_of_ble_eq_true rfl) dX12_logic_35 ?_
      refine lv_aload_n hx hb dX12_logic_38 rfl (lv_at hl 0 rfl) ?_
      refine lv_bipush (v := 23) hx hb dX12_logic_39 (by decide) ?_
      refine lv_bipush (v := 22) hx hb dX12_logic_41 (by decide) ?_
      obtain ⟨v4, e_v4, hf⟩ := Option.bind_eq_some_iff.mp hf
      refine k_X12_f (a0 := (23 : Int32)) (a1 := (22 : Int32)) (res := v4) (hres := e_v4) S hK hP tl_X12_121 ⟨Nat.le_of_ble_eq_true rfl, Nat.le_of_ble_eq_true rfl⟩ hl.1 (Nat.le_of_ble_eq_true rfl) dX12_logic_43 ?_
      refine lv_aload_n hx hb dX12_logic_46 rfl (lv_at hl 0 rfl) ?_
      refine lv_bipush (v := 15) hx hb dX12_logic_47 (by decide) ?_
      refine lv_bipush (v := 10) hx hb dX12_logic_49 (by decide) ?_
      obtain ⟨v5, e_v5, hf⟩ := Option.bind_eq_some_iff.mp hf
      refine k_X12_f (a0 := (15 : Int32)) (a1 := (10 : Int32)) (res := v5) (hres := e_v5) S hK hP tl_X12_121 ⟨Nat.le_of_ble_eq_true rfl, Nat.le_of_ble_eq_true rfl⟩ hl.1 (Nat.le_of_ble_eq_true rfl) dX12_logic_51 ?_
      refine lv_iload_n hx hb dX12_logic_54 rfl (lv_at hl 1 rfl) ?_
      obtain ⟨v6, e_v6, hf⟩ := Option.bind_eq_some_iff.mp hf
      refine k_X12_moved (a0 := (F_X12_cut v3 w1)) (a1 := v4) (a2 := v5) (a3 := w1) (res := v6) (hres := e_v6) S tl_X12_164 ⟨Nat.le_of_ble_eq_true rfl, Nat.le_of_ble_eq_true rfl⟩ hl.1 (Nat.le_of_ble_eq_true rfl) dX12_logic_55 ?_
      refine lv_lstore_n (lv' := [(2, .long v6), (0, .ref (r 0)), (1, .int w1)]) hx hb dX12_logic_58 rfl hl (by decide) rfl (fun ls hl => ?_)
      refine lv_aload_n hx hb dX12_logic_59 rfl (lv_at hl 1 rfl) ?_
      refine lv_bipush (v := 21) hx hb dX12_logic_60 (by decide) ?_
      refine k_X12_on (a0 := (21 : Int32)) S hK hP tl_X12_118 ⟨Nat.le_of_ble_eq_true rfl, Nat.le_of_ble_eq_true rfl⟩ hl.1 (Nat.le_of_ble_eq_true rfl) dX12_logic_62 ?_
      refine gz_eq (tgt := 78) hx hb dX12_logic_65 (by decide) (fun c_65 => ?_) (fun c_65 => ?_)
      · rw [if_neg c_65] at hf
        exact J_c78 τ w1 v6 H locs ls hf hP hD hS (lv_sub hl [1, 2, 0] rfl)
      · rw [if_pos c_65] at hf
        refine lv_lload_n hx hb dX12_logic_68 rfl (lv_at hl 0 rfl) ?_
        refine lv_ldc2 (v := -1) hx hb hown (hts _ tk_X12_141) dX12_logic_69 ?_
        refine lv_lxor hx hb dX12_logic_72 ?_
        refine lv_iload_n hx hb dX12_logic_73 rfl (lv_at hl 2 rfl) ?_
        refine k_X12_cut (a0 := (v6 ^^^ (-1 : Int64))) (a1 := w1) S tl_X12_138 ⟨Nat.le_of_ble_eq_true rfl, Nat.le_of_ble_eq_true rfl⟩ hl.1 (Nat.le_of_ble_eq_true rfl) dX12_logic_74 ?_
        refine lv_lstore_n (lv' := [(2, .long (F_X12_cut (v6 ^^^ (-1 : Int64)) w1)), (0, .ref (r 0)), (1, .int w1)]) hx hb dX12_logic_77 rfl hl (by decide) rfl (fun ls hl => ?_)
        exact J_c78 τ w1 (F_X12_cut (v6 ^^^ (-1 : Int64)) w1) H locs ls hf hP hD hS (lv_sub hl [1, 2, 0] rfl)
    · rw [if_neg c_14] at hf
      refine lv_aload_n hx hb dX12_logic_17 rfl (lv_at hl 0 rfl) ?_
      refine k_X12_none S hK hA hP hD hS tl_X12_158 ⟨Nat.le_of_ble_eq_true rfl, Nat.le_of_ble_eq_true rfl⟩ hl.1 (Nat.le_of_ble_eq_true rfl) dX12_logic_18 (fun H locs hP hD hS => ?_)
      exact hend (F_X12_none τ) H locs 21 ls (Option.some.inj hf) hP hD hS dX12_logic_21
  unfold F_X12_logic at hf
  refine lv_aload_n hx hb dX12_logic_0 rfl (lv_at hl 0 rfl) ?_
  refine k_X12_width S hK hP tl_X12_129 ⟨Nat.le_of_ble_eq_true rfl, Nat.le_of_ble_eq_true rfl⟩ hl.1 (Nat.le_of_ble_eq_true rfl) dX12_logic_1 ?_
  refine lv_istore_n (lv' := [(1, .int (F_X12_width σ)), (0, .ref (r 0))]) hx hb dX12_logic_4 rfl hl (by decide) rfl (fun ls hl => ?_)
  exact J_c5 σ (F_X12_width σ) H locs ls hf hP hD hS (lv_sub hl [1, 0] rfl)
theorem k_X12_logic {p : Program} {l : Launch} {e : Env} {R : Room} {s : State} {m : MethodId} {args : Array Value} {below : List Frame} {meth : Method} {c : Code} {H : Heap} {locs : List Loc} {Q : State → Prop} {cc : ByteArray} {pc : Nat} {ls : Array Slot} {rest : List Value} {own : String} {index nL : Nat} {A : Nat → Prop} {z : Cx} {r : Nat → Nat} {σ : MS} {res : MS} (hres : F_X12_logic σ = some res) (S : CallFix p m c cc nL s args tbG own) (hK : va_K z.1 vwCl (cxT z) s) (hA : ∀ q, s.heap.size ≤ q → A q) (hP : va_P z.1 vwCl (mW z r σ) H) (hD : va_D A (mW z r σ)) (hS : va_S A s.heap H locs) (hl : Cond.methodLink own index yX12_logic ∈ tbG) (hR : 3 + 1 ≤ R.frames ∧ 8 + (6 + 11) + 72 ≤ R.locals) (hsz : ls.size = nL) (hcat : (rest.map fun v => v.category).sum ≤ 8) (hdg : decode cc pc = .ok (.invokevirtual index, 3)) (kk : ∀ (H : Heap) (locs : List Loc), va_P z.1 vwCl (mW z r res) H → va_D A (mW z r res) → va_S A s.heap H locs → W p l e R s m args below meth c H locs 0 0 Q (F0 m (pc + 3) ls (rest))) : W p l e R s m args below meth c H locs 0 0 Q (F0 m pc ls (.ref (r 0) :: rest)) :=
  km (As := []) (ov := none) (w' := mW z r res) (q0 := 0) (ci := 11) S hK hA hP hD hS (c_X12_logic l z r σ H.size _ hres) ⟨tb_cB 0 S.2.2.2.2 tc_X12_logic ti_X12 hl rfl rfl (by decide +kernel) hR, S.2.2.2.2 _ tm_X12_logic, S.2.2.2.2 _ te_X12_logic⟩ rfl rfl rfl rfl hsz rfl hcat hdg kk

theorem dX12_masks_0 : decode cX12_masks 0 = .ok (.aload_n 0, 1) := by decide +kernel
theorem dX12_masks_1 : decode cX12_masks 1 = .ok (.invokevirtual 129, 3) := by decide +kernel
theorem dX12_masks_4 : decode cX12_masks 4 = .ok (.istore_n 1, 1) := by decide +kernel
theorem dX12_masks_5 : decode cX12_masks 5 = .ok (.aload_n 0, 1) := by decide +kernel
theorem dX12_masks_6 : decode cX12_masks 6 = .ok (.bipush 22, 2) := by decide +kernel
theorem dX12_masks_8 : decode cX12_masks 8 = .ok (.bipush 22, 2) := by decide +kernel
theorem dX12_masks_10 : decode cX12_masks 10 = .ok (.invokevirtual 121, 3) := by decide +kernel
theorem dX12_masks_13 : decode cX12_masks 13 = .ok (.bipush 6, 2) := by decide +kernel
theorem dX12_masks_15 : decode cX12_masks 15 = .ok (.ishl, 1) := by decide +kernel
theorem dX12_masks_16 : decode cX12_masks 16 = .ok (.aload_n 0, 1) := by decide +kernel
theorem dX12_masks_17 : decode cX12_masks 17 = .ok (.bipush 15, 2) := by decide +kernel
theorem dX12_masks_19 : decode cX12_masks 19 = .ok (.bipush 10, 2) := by decide +kernel
theorem dX12_masks_21 : decode cX12_masks 21 = .ok (.invokevirtual 121, 3) := by decide +kernel
theorem dX12_masks_24 : decode cX12_masks 24 = .ok (.iconst (-1), 1) := by decide +kernel
theorem dX12_masks_25 : decode cX12_masks 25 = .ok (.ixor, 1) := by decide +kernel
theorem dX12_masks_26 : decode cX12_masks 26 = .ok (.bipush 63, 2) := by decide +kernel
theorem dX12_masks_28 : decode cX12_masks 28 = .ok (.iand, 1) := by decide +kernel
theorem dX12_masks_29 : decode cX12_masks 29 = .ok (.ior, 1) := by decide +kernel
theorem dX12_masks_30 : decode cX12_masks 30 = .ok (.istore_n 2, 1) := by decide +kernel
theorem dX12_masks_31 : decode cX12_masks 31 = .ok (.bipush 6, 2) := by decide +kernel
theorem dX12_masks_33 : decode cX12_masks 33 = .ok (.istore_n 3, 1) := by decide +kernel
theorem dX12_masks_34 : decode cX12_masks 34 = .ok (.iload_n 3, 1) := by decide +kernel
theorem dX12_masks_35 : decode cX12_masks 35 = .ok (.ifCond .lt 17, 3) := by decide +kernel
theorem dX12_masks_38 : decode cX12_masks 38 = .ok (.iload_n 2, 1) := by decide +kernel
theorem dX12_masks_39 : decode cX12_masks 39 = .ok (.iload_n 3, 1) := by decide +kernel
theorem dX12_masks_40 : decode cX12_masks 40 = .ok (.ishr, 1) := by decide +kernel
theorem dX12_masks_41 : decode cX12_masks 41 = .ok (.iconst 1, 1) := by decide +kernel
theorem dX12_masks_42 : decode cX12_masks 42 = .ok (.iand, 1) := by decide +kernel
theorem dX12_masks_43 : decode cX12_masks 43 = .ok (.ifCond .ne 9, 3) := by decide +kernel
theorem dX12_masks_46 : decode cX12_masks 46 = .ok (.iinc 3 (-1), 3) := by decide +kernel
theorem dX12_masks_49 : decode cX12_masks 49 = .ok (.goto (-15), 3) := by decide +kernel
theorem dX12_masks_52 : decode cX12_masks 52 = .ok (.iload_n 3, 1) := by decide +kernel
theorem dX12_masks_53 : decode cX12_masks 53 = .ok (.iconst 1, 1) := by decide +kernel
theorem dX12_masks_54 : decode cX12_masks 54 = .ok (.if_icmp .lt 18, 3) := by decide +kernel
theorem dX12_masks_57 : decode cX12_masks 57 = .ok (.aload_n 0, 1) := by decide +kernel
theorem dX12_masks_58 : decode cX12_masks 58 = .ok (.bipush 22, 2) := by decide +kernel
theorem dX12_masks_60 : decode cX12_masks 60 = .ok (.invokevirtual 118, 3) := by decide +kernel
theorem dX12_masks_63 : decode cX12_masks 63 = .ok (.ifCond .eq 14, 3) := by decide +kernel
theorem dX12_masks_66 : decode cX12_masks 66 = .ok (.iload_n 1, 1) := by decide +kernel
theorem dX12_masks_67 : decode cX12_masks 67 = .ok (.bipush 32, 2) := by decide +kernel
theorem dX12_masks_69 : decode cX12_masks 69 = .ok (.if_icmp .ne 8, 3) := by decide +kernel
theorem dX12_masks_72 : decode cX12_masks 72 = .ok (.aload_n 0, 1) := by decide +kernel
theorem dX12_masks_73 : decode cX12_masks 73 = .ok (.invokevirtual 158, 3) := by decide +kernel
theorem dX12_masks_76 : decode cX12_masks 76 = .ok (.return_, 1) := by decide +kernel
theorem dX12_masks_77 : decode cX12_masks 77 = .ok (.iconst 1, 1) := by decide +kernel
theorem dX12_masks_78 : decode cX12_masks 78 = .ok (.iload_n 3, 1) := by decide +kernel
theorem dX12_masks_79 : decode cX12_masks 79 = .ok (.ishl, 1) := by decide +kernel
theorem dX12_masks_80 : decode cX12_masks 80 = .ok (.istore 4, 2) := by decide +kernel
theorem dX12_masks_82 : decode cX12_masks 82 = .ok (.aload_n 0, 1) := by decide +kernel
theorem dX12_masks_83 : decode cX12_masks 83 = .ok (.bipush 15, 2) := by decide +kernel
theorem dX12_masks_85 : decode cX12_masks 85 = .ok (.bipush 10, 2) := by decide +kernel
theorem dX12_masks_87 : decode cX12_masks 87 = .ok (.invokevirtual 121, 3) := by decide +kernel
theorem dX12_masks_90 : decode cX12_masks 90 = .ok (.iload 4, 2) := by decide +kernel
theorem dX12_masks_92 : decode cX12_masks 92 = .ok (.iconst 1, 1) := by decide +kernel
theorem dX12_masks_93 : decode cX12_masks 93 = .ok (.isub, 1) := by decide +kernel
theorem dX12_masks_94 : decode cX12_masks 94 = .ok (.iand, 1) := by decide +kernel
theorem dX12_masks_95 : decode cX12_masks 95 = .ok (.istore 5, 2) := by decide +kernel
theorem dX12_masks_97 : decode cX12_masks 97 = .ok (.aload_n 0, 1) := by decide +kernel
theorem dX12_masks_98 : decode cX12_masks 98 = .ok (.bipush 21, 2) := by decide +kernel
theorem dX12_masks_100 : decode cX12_masks 100 = .ok (.bipush 16, 2) := by decide +kernel
theorem dX12_masks_102 : decode cX12_masks 102 = .ok (.invokevirtual 121, 3) := by decide +kernel
theorem dX12_masks_105 : decode cX12_masks 105 = .ok (.iload 4, 2) := by decide +kernel
theorem dX12_masks_107 : decode cX12_masks 107 = .ok (.iconst 1, 1) := by decide +kernel
theorem dX12_masks_108 : decode cX12_masks 108 = .ok (.isub, 1) := by decide +kernel
theorem dX12_masks_109 : decode cX12_masks 109 = .ok (.iand, 1) := by decide +kernel
theorem dX12_masks_110 : decode cX12_masks 110 = .ok (.istore 6, 2) := by decide +kernel
theorem dX12_masks_112 : decode cX12_masks 112 = .ok (.iload 5, 2) := by decide +kernel
theorem dX12_masks_114 : decode cX12_masks 114 = .ok (.iload 4, 2) := by decide +kernel
theorem dX12_masks_116 : decode cX12_masks 116 = .ok (.iconst 1, 1) := by decide +kernel
theorem dX12_masks_117 : decode cX12_masks 117 = .ok (.isub, 1) := by decide +kernel
theorem dX12_masks_118 : decode cX12_masks 118 = .ok (.if_icmp .ne 8, 3) := by decide +kernel
theorem dX12_masks_121 : decode cX12_masks 121 = .ok (.aload_n 0, 1) := by decide +kernel
theorem dX12_masks_122 : decode cX12_masks 122 = .ok (.invokevirtual 158, 3) := by decide +kernel
theorem dX12_masks_125 : decode cX12_masks 125 = .ok (.return_, 1) := by decide +kernel
theorem dX12_masks_126 : decode cX12_masks 126 = .ok (.lconst 0, 1) := by decide +kernel
theorem dX12_masks_127 : decode cX12_masks 127 = .ok (.lstore 7, 2) := by decide +kernel
theorem dX12_masks_129 : decode cX12_masks 129 = .ok (.iconst 0, 1) := by decide +kernel
theorem dX12_masks_130 : decode cX12_masks 130 = .ok (.istore 9, 2) := by decide +kernel
theorem dX12_masks_132 : decode cX12_masks 132 = .ok (.iload 9, 2) := by decide +kernel
theorem dX12_masks_134 : decode cX12_masks 134 = .ok (.iload_n 1, 1) := by decide +kernel
theorem dX12_masks_135 : decode cX12_masks 135 = .ok (.if_icmp .ge 34, 3) := by decide +kernel
theorem dX12_masks_138 : decode cX12_masks 138 = .ok (.iload 9, 2) := by decide +kernel
theorem dX12_masks_140 : decode cX12_masks 140 = .ok (.iload 4, 2) := by decide +kernel
theorem dX12_masks_142 : decode cX12_masks 142 = .ok (.irem, 1) := by decide +kernel
theorem dX12_masks_143 : decode cX12_masks 143 = .ok (.iload 6, 2) := by decide +kernel
theorem dX12_masks_145 : decode cX12_masks 145 = .ok (.iadd, 1) := by decide +kernel
theorem dX12_masks_146 : decode cX12_masks 146 = .ok (.iload 4, 2) := by decide +kernel
theorem dX12_masks_148 : decode cX12_masks 148 = .ok (.irem, 1) := by decide +kernel
theorem dX12_masks_149 : decode cX12_masks 149 = .ok (.iload 5, 2) := by decide +kernel
theorem dX12_masks_151 : decode cX12_masks 151 = .ok (.if_icmp .gt 12, 3) := by decide +kernel
theorem dX12_masks_154 : decode cX12_masks 154 = .ok (.lload 7, 2) := by decide +kernel
theorem dX12_masks_156 : decode cX12_masks 156 = .ok (.lconst 1, 1) := by decide +kernel
theorem dX12_masks_157 : decode cX12_masks 157 = .ok (.iload 9, 2) := by decide +kernel
theorem dX12_masks_159 : decode cX12_masks 159 = .ok (.lshl, 1) := by decide +kernel
theorem dX12_masks_160 : decode cX12_masks 160 = .ok (.lor, 1) := by decide +kernel
theorem dX12_masks_161 : decode cX12_masks 161 = .ok (.lstore 7, 2) := by decide +kernel
theorem dX12_masks_163 : decode cX12_masks 163 = .ok (.iinc 9 1, 3) := by decide +kernel
theorem dX12_masks_166 : decode cX12_masks 166 = .ok (.goto (-34), 3) := by decide +kernel
theorem dX12_masks_169 : decode cX12_masks 169 = .ok (.aload_n 0, 1) := by decide +kernel
theorem dX12_masks_170 : decode cX12_masks 170 = .ok (.aload_n 0, 1) := by decide +kernel
theorem dX12_masks_171 : decode cX12_masks 171 = .ok (.bipush 30, 2) := by decide +kernel
theorem dX12_masks_173 : decode cX12_masks 173 = .ok (.bipush 29, 2) := by decide +kernel
theorem dX12_masks_175 : decode cX12_masks 175 = .ok (.invokevirtual 121, 3) := by decide +kernel
theorem dX12_masks_178 : decode cX12_masks 178 = .ok (.aload_n 0, 1) := by decide +kernel
theorem dX12_masks_179 : decode cX12_masks 179 = .ok (.aload_n 0, 1) := by decide +kernel
theorem dX12_masks_180 : decode cX12_masks 180 = .ok (.bipush 9, 2) := by decide +kernel
theorem dX12_masks_182 : decode cX12_masks 182 = .ok (.iconst 5, 1) := by decide +kernel
theorem dX12_masks_183 : decode cX12_masks 183 = .ok (.invokevirtual 121, 3) := by decide +kernel
theorem dX12_masks_186 : decode cX12_masks 186 = .ok (.invokevirtual 161, 3) := by decide +kernel
theorem dX12_masks_189 : decode cX12_masks 189 = .ok (.iload_n 1, 1) := by decide +kernel
theorem dX12_masks_190 : decode cX12_masks 190 = .ok (.invokestatic 138, 3) := by decide +kernel
theorem dX12_masks_193 : decode cX12_masks 193 = .ok (.lload 7, 2) := by decide +kernel
theorem dX12_masks_195 : decode cX12_masks 195 = .ok (.invokevirtual 168, 3) := by decide +kernel
theorem dX12_masks_198 : decode cX12_masks 198 = .ok (.lstore 9, 2) := by decide +kernel
theorem dX12_masks_200 : decode cX12_masks 200 = .ok (.aload_n 0, 1) := by decide +kernel
theorem dX12_masks_201 : decode cX12_masks 201 = .ok (.bipush 30, 2) := by decide +kernel
theorem dX12_masks_203 : decode cX12_masks 203 = .ok (.bipush 29, 2) := by decide +kernel
theorem dX12_masks_205 : decode cX12_masks 205 = .ok (.invokevirtual 121, 3) := by decide +kernel
theorem dX12_masks_208 : decode cX12_masks 208 = .ok (.iconst 3, 1) := by decide +kernel
theorem dX12_masks_209 : decode cX12_masks 209 = .ok (.if_icmp .ne 27, 3) := by decide +kernel
theorem dX12_masks_212 : decode cX12_masks 212 = .ok (.aload_n 0, 1) := by decide +kernel
theorem dX12_masks_213 : decode cX12_masks 213 = .ok (.lload 9, 2) := by decide +kernel
theorem dX12_masks_215 : decode cX12_masks 215 = .ok (.iload_n 1, 1) := by decide +kernel
theorem dX12_masks_216 : decode cX12_masks 216 = .ok (.iconst 0, 1) := by decide +kernel
theorem dX12_masks_217 : decode cX12_masks 217 = .ok (.iconst 0, 1) := by decide +kernel
theorem dX12_masks_218 : decode cX12_masks 218 = .ok (.invokevirtual 147, 3) := by decide +kernel
theorem dX12_masks_221 : decode cX12_masks 221 = .ok (.aload_n 0, 1) := by decide +kernel
theorem dX12_masks_222 : decode cX12_masks 222 = .ok (.aload_n 0, 1) := by decide +kernel
theorem dX12_masks_223 : decode cX12_masks 223 = .ok (.iconst 4, 1) := by decide +kernel
theorem dX12_masks_224 : decode cX12_masks 224 = .ok (.iconst 0, 1) := by decide +kernel
theorem dX12_masks_225 : decode cX12_masks 225 = .ok (.invokevirtual 121, 3) := by decide +kernel
theorem dX12_masks_228 : decode cX12_masks 228 = .ok (.lload 9, 2) := by decide +kernel
theorem dX12_masks_230 : decode cX12_masks 230 = .ok (.invokevirtual 151, 3) := by decide +kernel
theorem dX12_masks_233 : decode cX12_masks 233 = .ok (.goto 15, 3) := by decide +kernel
theorem dX12_masks_236 : decode cX12_masks 236 = .ok (.aload_n 0, 1) := by decide +kernel
theorem dX12_masks_237 : decode cX12_masks 237 = .ok (.aload_n 0, 1) := by decide +kernel
theorem dX12_masks_238 : decode cX12_masks 238 = .ok (.iconst 4, 1) := by decide +kernel
theorem dX12_masks_239 : decode cX12_masks 239 = .ok (.iconst 0, 1) := by decide +kernel
theorem dX12_masks_240 : decode cX12_masks 240 = .ok (.invokevirtual 121, 3) := by decide +kernel
theorem dX12_masks_243 : decode cX12_masks 243 = .ok (.lload 9, 2) := by decide +kernel
theorem dX12_masks_245 : decode cX12_masks 245 = .ok (.invokevirtual 155, 3) := by decide +kernel
theorem dX12_masks_248 : decode cX12_masks 248 = .ok (.return_, 1) := by decide +kernel
def F_X12_masks_c72 (τ : MS) : Option (MS) := some ((F_X12_none τ))
def F_X12_masks_c200 (τ : MS) (w1 : Int32) (w9 : Int64) : Option (MS) := ((F_X12_f τ (30 : Int32) (29 : Int32)).bind fun v8 => (if v8 = (3 : Int32) then ((F_X12_f (F_X12_signs τ w9 w1 (0 : Int32) (0 : Int32)) (4 : Int32) (0 : Int32)).bind fun v11 => ((F_X12_put (F_X12_signs τ w9 w1 (0 : Int32) (0 : Int32)) v11 w9).bind fun v12 => some (v12))) else ((F_X12_f τ (4 : Int32) (0 : Int32)).bind fun v9 => ((F_X12_putOrPointer τ v9 w9).bind fun v10 => some (v10)))))
def F_X12_masks_c163 (k : MS → Int32 → Int32 → Int32 → Int32 → Int64 → Int32 → Option (MS)) (τ : MS) (w1 : Int32) (w4 : Int32) (w5 : Int32) (w6 : Int32) (w7 : Int64) (w9 : Int32) : Option (MS) := (k τ w1 w4 w5 w6 w7 (w9 + (1)))
def F_X12_masks_c132 : Nat → MS → Int32 → Int32 → Int32 → Int32 → Int64 → Int32 → Option (MS)
  | 0, _, _, _, _, _, _, _ => none
  | n + 1, τ, w1, w4, w5, w6, w7, w9 => (if w1 ≤ w9 then ((F_X12_f τ (30 : Int32) (29 : Int32)).bind fun v5 => ((F_X12_f τ (9 : Int32) (5 : Int32)).bind fun v6 => ((F_X12_reg τ v6).bind fun v7 => (F_X12_masks_c200 τ w1 (F_X12_joined τ v5 (F_X12_cut v7 w1) w7))))) else (if w4 = 0 then none else (if w4 = 0 then none else (if w5 < (((w9 - w9 / w4 * w4) + w6) - ((w9 - w9 / w4 * w4) + w6) / w4 * w4) then (F_X12_masks_c163 (F_X12_masks_c132 n) τ w1 w4 w5 w6 w7 w9) else (F_X12_masks_c163 (F_X12_masks_c132 n) τ w1 w4 w5 w6 (w7 ||| (j_lshl (1 : Int64) w9)) w9)))))
def F_X12_masks_c97 (τ : MS) (w1 : Int32) (w4 : Int32) (w5 : Int32) : Option (MS) := ((F_X12_f τ (21 : Int32) (16 : Int32)).bind fun v4 => (if w5 = (w4 - (1 : Int32)) then some ((F_X12_none τ)) else (F_X12_masks_c132 70 τ w1 w4 w5 (v4 &&& (w4 - (1 : Int32))) (0 : Int64) (0 : Int32))))
def F_X12_masks_c82 (τ : MS) (w1 : Int32) (w4 : Int32) : Option (MS) := ((F_X12_f τ (15 : Int32) (10 : Int32)).bind fun v3 => (F_X12_masks_c97 τ w1 w4 (v3 &&& (w4 - (1 : Int32)))))
def F_X12_masks_c77 (τ : MS) (w1 : Int32) (w3 : Int32) : Option (MS) := (F_X12_masks_c82 τ w1 ((1 : Int32) <<< (w3 &&& 31)))
def F_X12_masks_c52 (τ : MS) (w1 : Int32) (w3 : Int32) : Option (MS) := (if w3 < (1 : Int32) then (F_X12_masks_c72 τ) else (if (F_X12_on τ (22 : Int32)) = true then (if w1 = (32 : Int32) then (F_X12_masks_c72 τ) else (F_X12_masks_c77 τ w1 w3)) else (F_X12_masks_c77 τ w1 w3)))
def F_X12_masks_c34 : Nat → MS → Int32 → Int32 → Int32 → Option (MS)
  | 0, _, _, _, _ => none
  | n + 1, τ, w1, w2, w3 => (if w3 < 0 then (F_X12_masks_c52 τ w1 w3) else (if ((w2 >>> (w3 &&& 31)) &&& (1 : Int32)) = 0 then (F_X12_masks_c34 n τ w1 w2 (w3 + (-1))) else (F_X12_masks_c52 τ w1 w3)))
def F_X12_masks_c5 (τ : MS) (w1 : Int32) : Option (MS) := ((F_X12_f τ (22 : Int32) (22 : Int32)).bind fun v1 => ((F_X12_f τ (15 : Int32) (10 : Int32)).bind fun v2 => (F_X12_masks_c34 70 τ w1 ((v1 <<< ((6 : Int32) &&& 31)) ||| ((v2 ^^^ (-1 : Int32)) &&& (63 : Int32))) (6 : Int32))))
def F_X12_masks (σ : MS)  : Option (MS) := (F_X12_masks_c5 σ (F_X12_width σ))
set_option maxHeartbeats 4000000 in
set_option maxRecDepth 100000 in
theorem c_X12_masks (l : Launch) (z : Cx) (r : Nat → Nat) (σ : MS) (sz : Nat) (res : MS) (hf : F_X12_masks σ = some res) : Met l yX12_masks (wsC yX12_masks cX12_masks 11 none) { frames := 3, cells := 0, slots := 0, locals := 72 } (mPc z (mW z r σ) sz [.ref (r 0)]) (gM z (va_A (mW z r σ) sz) none (mW z r res)) 0 0 (va_A (mW z r σ) sz) := by
  refine mk_m_v (own := RX12) (wf := mW z r) (by decide) rfl sz _ (Nat.le_of_ble_eq_true rfl) (fun p e s m below meth c A H locs Q ls S hK hA hP hD hS hl hend => ?_)
  have hx := S.1
  have hb := S.2.1
  have hown := S.2.2.2.1
  have hts := S.2.2.2.2
  have hl : lv_has ls 11 [(0, .ref (r 0))] := hl
  have J_c72 : ∀ (τ : MS) (H : Heap) (locs : List Loc) (ls : Array Slot), F_X12_masks_c72 τ = some res → va_P z.1 vwCl (mW z r τ) H → va_D A (mW z r τ) → va_S A s.heap H locs → lv_has ls 11 [(0, .ref (r 0))] → W p l e { frames := 3, cells := 0, slots := 0, locals := 72 } s m ([.ref (r 0)] : List Value).toArray below meth c H locs 0 0 Q (F0 m 72 ls []) := by
    intro τ H locs ls hf hP hD hS hl
    unfold F_X12_masks_c72 at hf
    refine lv_aload_n hx hb dX12_masks_72 rfl (lv_at hl 0 rfl) ?_
    refine k_X12_none S hK hA hP hD hS tl_X12_158 ⟨Nat.le_of_ble_eq_true rfl, Nat.le_of_ble_eq_true rfl⟩ hl.1 (Nat.le_of_ble_eq_true rfl) dX12_masks_73 (fun H locs hP hD hS => ?_)
    exact hend (F_X12_none τ) H locs 76 ls (Option.some.inj hf) hP hD hS dX12_masks_76
  have J_c200 : ∀ (τ : MS) (w1 : Int32) (w9 : Int64) (H : Heap) (locs : List Loc) (ls : Array Slot), F_X12_masks_c200 τ w1 w9 = some res → va_P z.1 vwCl (mW z r τ) H → va_D A (mW z r τ) → va_S A s.heap H locs → lv_has ls 11 [(0, .ref (r 0)), (1, .int w1), (9, .long w9)] → W p l e { frames := 3, cells := 0, slots := 0, locals := 72 } s m ([.ref (r 0)] : List Value).toArray below meth c H locs 0 0 Q (F0 m 200 ls []) := by
    intro τ w1 w9 H locs ls hf hP hD hS hl
    unfold F_X12_masks_c200 at hf
    refine lv_aload_n hx hb dX12_masks_200 rfl (lv_at hl 0 rfl) ?_
    refine lv_bipush (v := 30) hx hb dX12_masks_201 (by decide) ?_
    refine lv_bipush (v := 29) hx hb dX12_masks_203 (by decide) ?_
    obtain ⟨v8, e_v8, hf⟩ := Option.bind_eq_some_iff.mp hf
    refine k_X12_f (a0 := (30 : Int32)) (a1 := (29 : Int32)) (res := v8) (hres := e_v8) S hK hP tl_X12_121 ⟨Nat.le_of_ble_eq_true rfl, Nat.le_of_ble_eq_true rfl⟩ hl.1 (Nat.le_of_ble_eq_true rfl) dX12_masks_205 ?_
    refine lv_iconst (v := 3) hx hb dX12_masks_208 (by decide) ?_
    refine lv_icmp_ne (tgt := 236) hx hb dX12_masks_209 (by decide) (fun c_209 => ?_) (fun c_209 => ?_)
    · rw [if_neg c_209] at hf
      refine lv_aload_n hx hb dX12_masks_236 rfl (lv_at hl 0 rfl) ?_
      refine lv_aload_n hx hb dX12_masks_237 rfl (lv_at hl 0 rfl) ?_
      refine lv_iconst (v := 4) hx hb dX12_masks_238 (by decide) ?_
      refine lv_iconst (v := 0) hx hb dX12_masks_239 (by decide) ?_
      obtain ⟨v9, e_v9, hf⟩ := Option.bind_eq_some_iff.mp hf
      refine k_X12_f (a0 := (4 : Int32)) (a1 := (0 : Int32)) (res := v9) (hres := e_v9) S hK hP tl_X12_121 ⟨Nat.le_of_ble_eq_true rfl, Nat.le_of_ble_eq_true rfl⟩ hl.1 (Nat.le_of_ble_eq_true rfl) dX12_masks_240 ?_
      refine lv_lload hx hb dX12_masks_243 (lv_at hl 2 rfl) ?_
      obtain ⟨v10, e_v10, hf⟩ := Option.bind_eq_some_iff.mp hf
      refine k_X12_putOrPointer (a0 := v9) (a1 := w9) (res := v10) (hres := e_v10) S hK hA hP hD hS tl_X12_155 ⟨Nat.le_of_ble_eq_true rfl, Nat.le_of_ble_eq_true rfl⟩ hl.1 (Nat.le_of_ble_eq_true rfl) dX12_masks_245 (fun H locs hP hD hS => ?_)
      exact hend v10 H locs 248 ls (Option.some.inj hf) hP hD hS dX12_masks_248
    · rw [if_pos c_209] at hf
      refine lv_aload_n hx hb dX12_masks_212 rfl (lv_at hl 0 rfl) ?_
      refine lv_lload hx hb dX12_masks_213 (lv_at hl 2 rfl) ?_
      refine lv_iload_n hx hb dX12_masks_215 rfl (lv_at hl 1 rfl) ?_
      refine lv_iconst (v := 0) hx hb dX12_masks_216 (by decide) ?_
      refine lv_iconst (v := 0) hx hb dX12_masks_217 (by decide) ?_
      refine k_X12_signs (a0 := w9) (a1 := w1) (a2 := (0 : Int32)) (a3 := (0 : Int32)) S hK hA hP hD hS tl_X12_147 ⟨Nat.le_of_ble_eq_true rfl, Nat.le_of_ble_eq_true rfl⟩ hl.1 (Nat.le_of_ble_eq_true rfl) dX12_masks_218 (fun H locs hP hD hS => ?_)
      refine lv_aload_n hx hb dX12_masks_221 rfl (lv_at hl 0 rfl) ?_
      refine lv_aload_n hx hb dX12_masks_222 rfl (lv_at hl 0 rfl) ?_
      refine lv_iconst (v := 4) hx hb dX12_masks_223 (by decide) ?_
      refine lv_iconst (v := 0) hx hb dX12_masks_224 (by decide) ?_
      obtain ⟨v11, e_v11, hf⟩ := Option.bind_eq_some_iff.mp hf
      refine k_X12_f (a0 := (4 : Int32)) (a1 := (0 : Int32)) (res := v11) (hres := e_v11) S hK hP tl_X12_121 ⟨Nat.le_of_ble_eq_true rfl, Nat.le_of_ble_eq_true rfl⟩ hl.1 (Nat.le_of_ble_eq_true rfl) dX12_masks_225 ?_
      refine lv_lload hx hb dX12_masks_228 (lv_at hl 2 rfl) ?_
      obtain ⟨v12, e_v12, hf⟩ := Option.bind_eq_some_iff.mp hf
      refine k_X12_put (a0 := v11) (a1 := w9) (res := v12) (hres := e_v12) S hK hA hP hD hS tl_X12_151 ⟨Nat.le_of_ble_eq_true rfl, Nat.le_of_ble_eq_true rfl⟩ hl.1 (Nat.le_of_ble_eq_true rfl) dX12_masks_230 (fun H locs hP hD hS => ?_)
      refine lv_goto (tgt := 248) hx hb dX12_masks_233 (by decide) ?_
      exact hend v12 H locs 248 ls (Option.some.inj hf) hP hD hS dX12_masks_248
  have J_c132 : ∀ (n : Nat) (τ : MS) (w1 : Int32) (w4 : Int32) (w5 : Int32) (w6 : Int32) (w7 : Int64) (w9 : Int32) (H : Heap) (locs : List Loc) (ls : Array Slot), F_X12_masks_c132 n τ w1 w4 w5 w6 w7 w9 = some res → va_P z.1 vwCl (mW z r τ) H → va_D A (mW z r τ) → va_S A s.heap H locs → lv_has ls 11 [(0, .ref (r 0)), (1, .int w1), (4, .int w4), (5, .int w5), (6, .int w6), (7, .long w7), (9, .int w9)] → W p l e { frames := 3, cells := 0, slots := 0, locals := 72 } s m ([.ref (r 0)] : List Value).toArray below meth c H locs 0 0 Q (F0 m 132 ls []) := by
    intro n
    induction n with
    | zero => intro τ w1 w4 w5 w6 w7 w9 H locs ls hf; rw [F_X12_masks_c132] at hf; cases hf
    | succ n ih =>
      have J_c163 : ∀ (τ : MS) (w1 : Int32) (w4 : Int32) (w5 : Int32) (w6 : Int32) (w7 : Int64) (w9 : Int32) (H : Heap) (locs : List Loc) (ls : Array Slot), F_X12_masks_c163 (F_X12_masks_c132 n) τ w1 w4 w5 w6 w7 w9 = some res → va_P z.1 vwCl (mW z r τ) H → va_D A (mW z r τ) → va_S A s.heap H locs → lv_has ls 11 [(0, .ref (r 0)), (1, .int w1), (4, .int w4), (5, .int w5), (6, .int w6), (7, .long w7), (9, .int w9)] → W p l e { frames := 3, cells := 0, slots := 0, locals := 72 } s m ([.ref (r 0)] : List Value).toArray below meth c H locs 0 0 Q (F0 m 163 ls []) := by
        intro τ w1 w4 w5 w6 w7 w9 H locs ls hf hP hD hS hl
        unfold F_X12_masks_c163 at hf
        refine lv_iinc (v := w9 + (1)) (lv' := [(9, .int (w9 + (1))), (0, .ref (r 0)), (1, .int w1), (4, .int w4), (5, .int w5), (6, .int w6), (7, .long w7)]) hx hb dX12_masks_163 hl (k := 6) rfl rfl (by decide) rfl (fun ls hl => ?_)
        refine lv_goto (tgt := 132) hx hb dX12_masks_166 (by decide) ?_
        exact ih τ w1 w4 w5 w6 w7 (w9 + (1)) H locs ls hf hP hD hS (lv_sub hl [1, 2, 3, 4, 5, 6, 0] rfl)
      intro τ w1 w4 w5 w6 w7 w9 H locs ls hf hP hD hS hl
      rw [F_X12_masks_c132] at hf
      refine lv_iload hx hb dX12_masks_132 (lv_at hl 6 rfl) ?_
      refine lv_iload_n hx hb dX12_masks_134 rfl (lv_at hl 1 rfl) ?_
      refine lv_icmp_ge (tgt := 169) hx hb dX12_masks_135 (by decide) (fun c_135 => ?_) (fun c_135 => ?_)
      · rw [if_pos c_135] at hf
        refine lv_aload_n hx hb dX12_masks_169 rfl (lv_at hl 0 rfl) ?_
        refine lv_aload_n hx hb dX12_masks_170 rfl (lv_at hl 0 rfl) ?_
        refine lv_bipush (v := 30) hx hb dX12_masks_171 (by decide) ?_
        refine lv_bipush (v := 29) hx hb dX12_masks_173 (by decide) ?_
        obtain ⟨v5, e_v5, hf⟩ := Option.bind_eq_some_iff.mp hf
        refine k_X12_f (a0 := (30 : Int32)) (a1 := (29 : Int32)) (res := v5) (hres := e_v5) S hK hP tl_X12_121 ⟨Nat.le_of_ble_eq_true rfl, Nat.le_of_ble_eq_true rfl⟩ hl.1 (Nat.le_of_ble_eq_true rfl) dX12_masks_175 ?_
        refine lv_aload_n hx hb dX12_masks_178 rfl (lv_at hl 0 rfl) ?_
        refine lv_aload_n hx hb dX12_masks_179 rfl (lv_at hl 0 rfl) ?_
        refine lv_bipush (v := 9) hx hb dX12_masks_180 (by decide) ?_
        refine lv_iconst (v := 5) hx hb dX12_masks_182 (by decide) ?_
        obtain ⟨v6, e_v6, hf⟩ := Option.bind_eq_some_iff.mp hf
        refine k_X12_f (a0 := (9 : Int32)) (a1 := (5 : Int32)) (res := v6) (hres := e_v6) S hK hP tl_X12_121 ⟨Nat.le_of_ble_eq_true rfl, Nat.le_of_ble_eq_true rfl⟩ hl.1 (Nat.le_of_ble_eq_true rfl) dX12_masks_183 ?_
        obtain ⟨v7, e_v7, hf⟩ := Option.bind_eq_some_iff.mp hf
        refine k_X12_reg (a0 := v6) (res := v7) (hres := e_v7) S hK hP tl_X12_161 ⟨Nat.le_of_ble_eq_true rfl, Nat.le_of_ble_eq_true rfl⟩ hl.1 (Nat.le_of_ble_eq_true rfl) dX12_masks_186 ?_
        refine lv_iload_n hx hb dX12_masks_189 rfl (lv_at hl 1 rfl) ?_
        refine k_X12_cut (a0 := v7) (a1 := w1) S tl_X12_138 ⟨Nat.le_of_ble_eq_true rfl, Nat.le_of_ble_eq_true rfl⟩ hl.1 (Nat.le_of_ble_eq_true rfl) dX12_masks_190 ?_
        refine lv_lload hx hb dX12_masks_193 (lv_at hl 5 rfl) ?_
        refine k_X12_joined (a0 := v5) (a1 := (F_X12_cut v7 w1)) (a2 := w7) S hK hP tl_X12_168 ⟨Nat.le_of_ble_eq_true rfl, Nat.le_of_ble_eq_true rfl⟩ hl.1 (Nat.le_of_ble_eq_true rfl) dX12_masks_195 ?_
        refine lv_lstore (lv' := [(9, .long (F_X12_joined τ v5 (F_X12_cut v7 w1) w7)), (0, .ref (r 0)), (1, .int w1), (4, .int w4), (5, .int w5), (6, .int w6), (7, .long w7)]) hx hb dX12_masks_198 hl (by decide) rfl (fun ls hl => ?_)
        exact J_c200 τ w1 (F_X12_joined τ v5 (F_X12_cut v7 w1) w7) H locs ls hf hP hD hS (lv_sub hl [1, 2, 0] rfl)
      · rw [if_neg c_135] at hf
        refine lv_iload hx hb dX12_masks_138 (lv_at hl 6 rfl) ?_
        refine lv_iload hx hb dX12_masks_140 (lv_at hl 2 rfl) ?_
        by_cases c_142 : w4 = 0
        · rw [if_pos c_142] at hf
          cases hf
        rw [if_neg c_142] at hf
        refine lv_irem hx hb dX12_masks_142 c_142 ?_
        refine lv_iload hx hb dX12_masks_143 (lv_at hl 4 rfl) ?_
        refine lv_iadd hx hb dX12_masks_145 ?_
        refine lv_iload hx hb dX12_masks_146 (lv_at hl 2 rfl) ?_
        by_cases c_148 : w4 = 0
        · rw [if_pos c_148] at hf
          cases hf
        rw [if_neg c_148] at hf
        refine lv_irem hx hb dX12_masks_148 c_148 ?_
        refine lv_iload hx hb dX12_masks_149 (lv_at hl 3 rfl) ?_
        refine lv_icmp_gt (tgt := 163) hx hb dX12_masks_151 (by decide) (fun c_151 => ?_) (fun c_151 => ?_)
        · rw [if_pos c_151] at hf
          exact J_c163 τ w1 w4 w5 w6 w7 w9 H locs ls hf hP hD hS (lv_sub hl [0, 1, 2, 3, 4, 5, 6] rfl)
        · rw [if_neg c_151] at hf
          refine lv_lload hx hb dX12_masks_154 (lv_at hl 5 rfl) ?_
          refine lv_lconst (v := 1) hx hb dX12_masks_156 (by decide) ?_
          refine lv_iload hx hb dX12_masks_157 (lv_at hl 6 rfl) ?_
          refine lv_lshl (v := (j_lshl (1 : Int64) w9)) hx hb dX12_masks_159 rfl ?_
          refine lv_lor hx hb dX12_masks_160 ?_
          refine lv_lstore (lv' := [(7, .long (w7 ||| (j_lshl (1 : Int64) w9))), (0, .ref (r 0)), (1, .int w1), (4, .int w4), (5, .int w5), (6, .int w6), (9, .int w9)]) hx hb dX12_masks_161 hl (by decide) rfl (fun ls hl => ?_)
          exact J_c163 τ w1 w4 w5 w6 (w7 ||| (j_lshl (1 : Int64) w9)) w9 H locs ls hf hP hD hS (lv_sub hl [1, 2, 3, 4, 5, 0, 6] rfl)
  have J_c97 : ∀ (τ : MS) (w1 : Int32) (w4 : Int32) (w5 : Int32) (H : Heap) (locs : List Loc) (ls : Array Slot), F_X12_masks_c97 τ w1 w4 w5 = some res → va_P z.1 vwCl (mW z r τ) H → va_D A (mW z r τ) → va_S A s.heap H locs → lv_has ls 11 [(0, .ref (r 0)), (1, .int w1), (4, .int w4), (5, .int w5)] → W p l e { frames := 3, cells := 0, slots := 0, locals := 72 } s m ([.ref (r 0)] : List Value).toArray below meth c H locs 0 0 Q (F0 m 97 ls []) := by
    intro τ w1 w4 w5 H locs ls hf hP hD hS hl
    unfold F_X12_masks_c97 at hf
    refine lv_aload_n hx hb dX12_masks_97 rfl (lv_at hl 0 rfl) ?_
    refine lv_bipush (v := 21) hx hb dX12_masks_98 (by decide) ?_
    refine lv_bipush (v := 16) hx hb dX12_masks_100 (by decide) ?_
    obtain ⟨v4, e_v4, hf⟩ := Option.bind_eq_some_iff.mp hf
    refine k_X12_f (a0 := (21 : Int32)) (a1 := (16 : Int32)) (res := v4) (hres := e_v4) S hK hP tl_X12_121 ⟨Nat.le_of_ble_eq_true rfl, Nat.le_of_ble_eq_true rfl⟩ hl.1 (Nat.le_of_ble_eq_true rfl) dX12_masks_102 ?_
    refine lv_iload hx hb dX12_masks_105 (lv_at hl 2 rfl) ?_
    refine lv_iconst (v := 1) hx hb dX12_masks_107 (by decide) ?_
    refine lv_isub hx hb dX12_masks_108 ?_
    refine lv_iand hx hb dX12_masks_109 ?_
    refine lv_istore (lv' := [(6, .int (v4 &&& (w4 - (1 : Int32)))), (0, .ref (r 0)), (1, .int w1), (4, .int w4), (5, .int w5)]) hx hb dX12_masks_110 hl (by decide) rfl (fun ls hl => ?_)
    refine lv_iload hx hb dX12_masks_112 (lv_at hl 4 rfl) ?_
    refine lv_iload hx hb dX12_masks_114 (lv_at hl 3 rfl) ?_
    refine lv_iconst (v := 1) hx hb dX12_masks_116 (by decide) ?_
    refine lv_isub hx hb dX12_masks_117 ?_
    refine lv_icmp_ne (tgt := 126) hx hb dX12_masks_118 (by decide) (fun c_118 => ?_) (fun c_118 => ?_)
    · rw [if_neg c_118] at hf
      refine lv_lconst (v := 0) hx hb dX12_masks_126 (by decide) ?_
      refine lv_lstore (lv' := [(7, .long (0 : Int64)), (6, .int (v4 &&& (w4 - (1 : Int32)))), (0, .ref (r 0)), (1, .int w1), (4, .int w4), (5, .int w5)]) hx hb dX12_masks_127 hl (by decide) rfl (fun ls hl => ?_)
      refine lv_iconst (v := 0) hx hb dX12_masks_129 (by decide) ?_
      refine lv_istore (lv' := [(9, .int (0 : Int32)), (7, .long (0 : Int64)), (6, .int (v4 &&& (w4 - (1 : Int32)))), (0, .ref (r 0)), (1, .int w1), (4, .int w4), (5, .int w5)]) hx hb dX12_masks_130 hl (by decide) rfl (fun ls hl => ?_)
      exact J_c132 70 τ w1 w4 w5 (v4 &&& (w4 - (1 : Int32))) (0 : Int64) (0 : Int32) H locs ls hf hP hD hS (lv_sub hl [3, 4, 5, 6, 2, 1, 0] rfl)
    · rw [if_pos c_118] at hf
      refine lv_aload_n hx hb dX12_masks_121 rfl (lv_at hl 1 rfl) ?_
      refine k_X12_none S hK hA hP hD hS tl_X12_158 ⟨Nat.le_of_ble_eq_true rfl, Nat.le_of_ble_eq_true rfl⟩ hl.1 (Nat.le_of_ble_eq_true rfl) dX12_masks_122 (fun H locs hP hD hS => ?_)
      exact hend (F_X12_none τ) H locs 125 ls (Option.some.inj hf) hP hD hS dX12_masks_125
  have J_c82 : ∀ (τ : MS) (w1 : Int32) (w4 : Int32) (H : Heap) (locs : List Loc) (ls : Array Slot), F_X12_masks_c82 τ w1 w4 = some res → va_P z.1 vwCl (mW z r τ) H → va_D A (mW z r τ) → va_S A s.heap H locs → lv_has ls 11 [(0, .ref (r 0)), (1, .int w1), (4, .int w4)] → W p l e { frames := 3, cells := 0, slots := 0, locals := 72 } s m ([.ref (r 0)] : List Value).toArray below meth c H locs 0 0 Q (F0 m 82 ls []) := by
    intro τ w1 w4 H locs ls hf hP hD hS hl
    unfold F_X12_masks_c82 at hf
    refine lv_aload_n hx hb dX12_masks_82 rfl (lv_at hl 0 rfl) ?_
    refine lv_bipush (v := 15) hx hb dX12_masks_83 (by decide) ?_
    refine lv_bipush (v := 10) hx hb dX12_masks_85 (by decide) ?_
    obtain ⟨v3, e_v3, hf⟩ := Option.bind_eq_some_iff.mp hf
    refine k_X12_f (a0 := (15 : Int32)) (a1 := (10 : Int32)) (res := v3) (hres := e_v3) S hK hP tl_X12_121 ⟨Nat.le_of_ble_eq_true rfl, Nat.le_of_ble_eq_true rfl⟩ hl.1 (Nat.le_of_ble_eq_true rfl) dX12_masks_87 ?_
    refine lv_iload hx hb dX12_masks_90 (lv_at hl 2 rfl) ?_
    refine lv_iconst (v := 1) hx hb dX12_masks_92 (by decide) ?_
    refine lv_isub hx hb dX12_masks_93 ?_
    refine lv_iand hx hb dX12_masks_94 ?_
    refine lv_istore (lv' := [(5, .int (v3 &&& (w4 - (1 : Int32)))), (0, .ref (r 0)), (1, .int w1), (4, .int w4)]) hx hb dX12_masks_95 hl (by decide) rfl (fun ls hl => ?_)
    exact J_c97 τ w1 w4 (v3 &&& (w4 - (1 : Int32))) H locs ls hf hP hD hS (lv_sub hl [1, 2, 3, 0] rfl)
  have J_c77 : ∀ (τ : MS) (w1 : Int32) (w3 : Int32) (H : Heap) (locs : List Loc) (ls : Array Slot), F_X12_masks_c77 τ w1 w3 = some res → va_P z.1 vwCl (mW z r τ) H → va_D A (mW z r τ) → va_S A s.heap H locs → lv_has ls 11 [(0, .ref (r 0)), (1, .int w1), (3, .int w3)] → W p l e { frames := 3, cells := 0, slots := 0, locals := 72 } s m ([.ref (r 0)] : List Value).toArray below meth c H locs 0 0 Q (F0 m 77 ls []) := by
    intro τ w1 w3 H locs ls hf hP hD hS hl
    unfold F_X12_masks_c77 at hf
    refine lv_iconst (v := 1) hx hb dX12_masks_77 (by decide) ?_
    refine lv_iload_n hx hb dX12_masks_78 rfl (lv_at hl 2 rfl) ?_
    refine lv_ishl hx hb dX12_masks_79 ?_
    refine lv_istore (lv' := [(4, .int ((1 : Int32) <<< (w3 &&& 31))), (0, .ref (r 0)), (1, .int w1), (3, .int w3)]) hx hb dX12_masks_80 hl (by decide) rfl (fun ls hl => ?_)
    exact J_c82 τ w1 ((1 : Int32) <<< (w3 &&& 31)) H locs ls hf hP hD hS (lv_sub hl [1, 2, 0] rfl)
  have J_c52 : ∀ (τ : MS) (w1 : Int32) (w3 : Int32) (H : Heap) (locs : List Loc) (ls : Array Slot), F_X12_masks_c52 τ w1 w3 = some res → va_P z.1 vwCl (mW z r τ) H → va_D A (mW z r τ) → va_S A s.heap H locs → lv_has ls 11 [(0, .ref (r 0)), (1, .int w1), (3, .int w3)] → W p l e { frames := 3, cells := 0, slots := 0, locals := 72 } s m ([.ref (r 0)] : List Value).toArray below meth c H locs 0 0 Q (F0 m 52 ls []) := by
    intro τ w1 w3 H locs ls hf hP hD hS hl
    unfold F_X12_masks_c52 at hf
    refine lv_iload_n hx hb dX12_masks_52 rfl (lv_at hl 2 rfl) ?_
    refine lv_iconst (v := 1) hx hb dX12_masks_53 (by decide) ?_
    refine lv_icmp_lt (tgt := 72) hx hb dX12_masks_54 (by decide) (fun c_54 => ?_) (fun c_54 => ?_)
    · rw [if_pos c_54] at hf
      exact J_c72 τ H locs ls hf hP hD hS (lv_sub hl [0] rfl)
    · rw [if_neg c_54] at hf
      refine lv_aload_n hx hb dX12_masks_57 rfl (lv_at hl 0 rfl) ?_
      refine lv_bipush (v := 22) hx hb dX12_masks_58 (by decide) ?_
      refine k_X12_on (a0 := (22 : Int32)) S hK hP tl_X12_118 ⟨Nat.le_of_ble_eq_true rfl, Nat.le_of_ble_eq_true rfl⟩ hl.1 (Nat.le_of_ble_eq_true rfl) dX12_masks_60 ?_
      refine gz_eq (tgt := 77) hx hb dX12_masks_63 (by decide) (fun c_63 => ?_) (fun c_63 => ?_)
      · rw [if_neg c_63] at hf
        exact J_c77 τ w1 w3 H locs ls hf hP hD hS (lv_sub hl [0, 1, 2] rfl)
      · rw [if_pos c_63] at hf
        refine lv_iload_n hx hb dX12_masks_66 rfl (lv_at hl 1 rfl) ?_
        refine lv_bipush (v := 32) hx hb dX12_masks_67 (by decide) ?_
        refine lv_icmp_ne (tgt := 77) hx hb dX12_masks_69 (by decide) (fun c_69 => ?_) (fun c_69 => ?_)
        · rw [if_neg c_69] at hf
          exact J_c77 τ w1 w3 H locs ls hf hP hD hS (lv_sub hl [0, 1, 2] rfl)
        · rw [if_pos c_69] at hf
          exact J_c72 τ H locs ls hf hP hD hS (lv_sub hl [0] rfl)
  have J_c34 : ∀ (n : Nat) (τ : MS) (w1 : Int32) (w2 : Int32) (w3 : Int32) (H : Heap) (locs : List Loc) (ls : Array Slot), F_X12_masks_c34 n τ w1 w2 w3 = some res → va_P z.1 vwCl (mW z r τ) H → va_D A (mW z r τ) → va_S A s.heap H locs → lv_has ls 11 [(0, .ref (r 0)), (1, .int w1), (2, .int w2), (3, .int w3)] → W p l e { frames := 3, cells := 0, slots := 0, locals := 72 } s m ([.ref (r 0)] : List Value).toArray below meth c H locs 0 0 Q (F0 m 34 ls []) := by
    intro n
    induction n with
    | zero => intro τ w1 w2 w3 H locs ls hf; rw [F_X12_masks_c34] at hf; cases hf
    | succ n ih =>
      intro τ w1 w2 w3 H locs ls hf hP hD hS hl
      rw [F_X12_masks_c34] at hf
      refine lv_iload_n hx hb dX12_masks_34 rfl (lv_at hl 3 rfl) ?_
      refine lv_if_lt (tgt := 52) hx hb dX12_masks_35 (by decide) (fun c_35 => ?_) (fun c_35 => ?_)
      · rw [if_pos c_35] at hf
        exact J_c52 τ w1 w3 H locs ls hf hP hD hS (lv_sub hl [0, 1, 3] rfl)
      · rw [if_neg c_35] at hf
        refine lv_iload_n hx hb dX12_masks_38 rfl (lv_at hl 2 rfl) ?_
        refine lv_iload_n hx hb dX12_masks_39 rfl (lv_at hl 3 rfl) ?_
        refine lv_ishr hx hb dX12_masks_40 ?_
        refine lv_iconst (v := 1) hx hb dX12_masks_41 (by decide) ?_
        refine lv_iand hx hb dX12_masks_42 ?_
        refine lv_if_ne (tgt := 52) hx hb dX12_masks_43 (by decide) (fun c_43 => ?_) (fun c_43 => ?_)
        · rw [if_neg c_43] at hf
          exact J_c52 τ w1 w3 H locs ls hf hP hD hS (lv_sub hl [0, 1, 3] rfl)
        · rw [if_pos c_43] at hf
          refine lv_iinc (v := w3 + (-1)) (lv' := [(3, .int (w3 + (-1))), (0, .ref (r 0)), (1, .int w1), (2, .int w2)]) hx hb dX12_masks_46 hl (k := 3) rfl rfl (by decide) rfl (fun ls hl => ?_)
          refine lv_goto (tgt := 34) hx hb dX12_masks_49 (by decide) ?_
          exact ih τ w1 w2 (w3 + (-1)) H locs ls hf hP hD hS (lv_sub hl [1, 2, 3, 0] rfl)
  have J_c5 : ∀ (τ : MS) (w1 : Int32) (H : Heap) (locs : List Loc) (ls : Array Slot), F_X12_masks_c5 τ w1 = some res → va_P z.1 vwCl (mW z r τ) H → va_D A (mW z r τ) → va_S A s.heap H locs → lv_has ls 11 [(0, .ref (r 0)), (1, .int w1)] → W p l e { frames := 3, cells := 0, slots := 0, locals := 72 } s m ([.ref (r 0)] : List Value).toArray below meth c H locs 0 0 Q (F0 m 5 ls []) := by
    intro τ w1 H locs ls hf hP hD hS hl
    unfold F_X12_masks_c5 at hf
    refine lv_aload_n hx hb dX12_masks_5 rfl (lv_at hl 0 rfl) ?_
    refine lv_bipush (v := 22) hx hb dX12_masks_6 (by decide) ?_
    refine lv_bipush (v := 22) hx hb dX12_masks_8 (by decide) ?_
    obtain ⟨v1, e_v1, hf⟩ := Option.bind_eq_some_iff.mp hf
    refine k_X12_f (a0 := (22 : Int32)) (a1 := (22 : Int32)) (res := v1) (hres := e_v1) S hK hP tl_X12_121 ⟨Nat.le_of_ble_eq_true rfl, Nat.le_of_ble_eq_true rfl⟩ hl.1 (Nat.le_of_ble_eq_true rfl) dX12_masks_10 ?_
    refine lv_bipush (v := 6) hx hb dX12_masks_13 (by decide) ?_
    refine lv_ishl hx hb dX12_masks_15 ?_
    refine lv_aload_n hx hb dX12_masks_16 rfl (lv_at hl 0 rfl) ?_
    refine lv_bipush (v := 15) hx hb dX12_masks_17 (by decide) ?_
    refine lv_bipush (v := 10) hx hb dX12_masks_19 (by decide) ?_
    obtain ⟨v2, e_v2, hf⟩ := Option.bind_eq_some_iff.mp hf
    refine k_X12_f (a0 := (15 : Int32)) (a1 := (10 : Int32)) (res := v2) (hres := e_v2) S hK hP tl_X12_121 ⟨Nat.le_of_ble_eq_true rfl, Nat.le_of_ble_eq_true rfl⟩ hl.1 (Nat.le_of_ble_eq_true rfl) dX12_masks_21 ?_
    refine lv_iconst (v := -1) hx hb dX12_masks_24 (by decide) ?_
    refine lv_ixor hx hb dX12_masks_25 ?_
    refine lv_bipush (v := 63) hx hb dX12_masks_26 (by decide) ?_
    refine lv_iand hx hb dX12_masks_28 ?_
    refine lv_ior hx hb dX12_masks_29 ?_
    refine lv_istore_n (lv' := [(2, .int ((v1 <<< ((6 : Int32) &&& 31)) ||| ((v2 ^^^ (-1 : Int32)) &&& (63 : Int32)))), (0, .ref (r 0)), (1, .int w1)]) hx hb dX12_masks_30 rfl hl (by decide) rfl (fun ls hl => ?_)
    refine lv_bipush (v := 6) hx hb dX12_masks_31 (by decide) ?_
    refine lv_istore_n (lv' := [(3, .int (6 : Int32)), (2, .int ((v1 <<< ((6 : Int32) &&& 31)) ||| ((v2 ^^^ (-1 : Int32)) &&& (63 : Int32)))), (0, .ref (r 0)), (1, .int w1)]) hx hb dX12_masks_33 rfl hl (by decide) rfl (fun ls hl => ?_)
    exact J_c34 70 τ w1 ((v1 <<< ((6 : Int32) &&& 31)) ||| ((v2 ^^^ (-1 : Int32)) &&& (63 : Int32))) (6 : Int32) H locs ls hf hP hD hS (lv_sub hl [2, 3, 1, 0] rfl)
  unfold F_X12_masks at hf
  refine lv_aload_n hx hb dX12_masks_0 rfl (lv_at hl 0 rfl) ?_
  refine k_X12_width S hK hP tl_X12_129 ⟨Nat.le_of_ble_eq_true rfl, Nat.le_of_ble_eq_true rfl⟩ hl.1 (Nat.le_of_ble_eq_true rfl) dX12_masks_1 ?_
  refine lv_istore_n (lv' := [(1, .int (F_X12_width σ)), (0, .ref (r 0))]) hx hb dX12_masks_4 rfl hl (by decide) rfl (fun ls hl => ?_)
  exact J_c5 σ (F_X12_width σ) H locs ls hf hP hD hS (lv_sub hl [1, 0] rfl)
theorem k_X12_masks {p : Program} {l : Launch} {e : Env} {R : Room} {s : State} {m : MethodId} {args : Array Value} {below : List Frame} {meth : Method} {c : Code} {H : Heap} {locs : List Loc} {Q : State → Prop} {cc : ByteArray} {pc : Nat} {ls : Array Slot} {rest : List Value} {own : String} {index nL : Nat} {A : Nat → Prop} {z : Cx} {r : Nat → Nat} {σ : MS} {res : MS} (hres : F_X12_masks σ = some res) (S : CallFix p m c cc nL s args tbG own) (hK : va_K z.1 vwCl (cxT z) s) (hA : ∀ q, s.heap.size ≤ q → A q) (hP : va_P z.1 vwCl (mW z r σ) H) (hD : va_D A (mW z r σ)) (hS : va_S A s.heap H locs) (hl : Cond.methodLink own index yX12_masks ∈ tbG) (hR : 3 + 1 ≤ R.frames ∧ 8 + (11 + 11) + 72 ≤ R.locals) (hsz : ls.size = nL) (hcat : (rest.map fun v => v.category).sum ≤ 8) (hdg : decode cc pc = .ok (.invokevirtual index, 3)) (kk : ∀ (H : Heap) (locs : List Loc), va_P z.1 vwCl (mW z r res) H → va_D A (mW z r res) → va_S A s.heap H locs → W p l e R s m args below meth c H locs 0 0 Q (F0 m (pc + 3) ls (rest))) : W p l e R s m args below meth c H locs 0 0 Q (F0 m pc ls (.ref (r 0) :: rest)) :=
  km (As := []) (ov := none) (w' := mW z r res) (q0 := 0) (ci := 11) S hK hA hP hD hS (c_X12_masks l z r σ H.size _ hres) ⟨tb_cB 0 S.2.2.2.2 tc_X12_masks ti_X12 hl rfl rfl (by decide +kernel) hR, S.2.2.2.2 _ tm_X12_masks, S.2.2.2.2 _ te_X12_masks⟩ rfl rfl rfl rfl hsz rfl hcat hdg kk

theorem dX12_move_0 : decode cX12_move 0 = .ok (.aload_n 0, 1) := by decide +kernel
theorem dX12_move_1 : decode cX12_move 1 = .ok (.invokevirtual 129, 3) := by decide +kernel
theorem dX12_move_4 : decode cX12_move 4 = .ok (.istore_n 1, 1) := by decide +kernel
theorem dX12_move_5 : decode cX12_move 5 = .ok (.aload_n 0, 1) := by decide +kernel
theorem dX12_move_6 : decode cX12_move 6 = .ok (.bipush 30, 2) := by decide +kernel
theorem dX12_move_8 : decode cX12_move 8 = .ok (.bipush 29, 2) := by decide +kernel
theorem dX12_move_10 : decode cX12_move 10 = .ok (.invokevirtual 121, 3) := by decide +kernel
theorem dX12_move_13 : decode cX12_move 13 = .ok (.istore_n 2, 1) := by decide +kernel
theorem dX12_move_14 : decode cX12_move 14 = .ok (.aload_n 0, 1) := by decide +kernel
theorem dX12_move_15 : decode cX12_move 15 = .ok (.bipush 22, 2) := by decide +kernel
theorem dX12_move_17 : decode cX12_move 17 = .ok (.bipush 21, 2) := by decide +kernel
theorem dX12_move_19 : decode cX12_move 19 = .ok (.invokevirtual 121, 3) := by decide +kernel
theorem dX12_move_22 : decode cX12_move 22 = .ok (.istore_n 3, 1) := by decide +kernel
theorem dX12_move_23 : decode cX12_move 23 = .ok (.iload_n 2, 1) := by decide +kernel
theorem dX12_move_24 : decode cX12_move 24 = .ok (.iconst 1, 1) := by decide +kernel
theorem dX12_move_25 : decode cX12_move 25 = .ok (.if_icmp .eq 14, 3) := by decide +kernel
theorem dX12_move_28 : decode cX12_move 28 = .ok (.iload_n 3, 1) := by decide +kernel
theorem dX12_move_29 : decode cX12_move 29 = .ok (.iconst 1, 1) := by decide +kernel
theorem dX12_move_30 : decode cX12_move 30 = .ok (.if_icmp .le 14, 3) := by decide +kernel
theorem dX12_move_33 : decode cX12_move 33 = .ok (.iload_n 1, 1) := by decide +kernel
theorem dX12_move_34 : decode cX12_move 34 = .ok (.bipush 32, 2) := by decide +kernel
theorem dX12_move_36 : decode cX12_move 36 = .ok (.if_icmp .ne 8, 3) := by decide +kernel
theorem dX12_move_39 : decode cX12_move 39 = .ok (.aload_n 0, 1) := by decide +kernel
theorem dX12_move_40 : decode cX12_move 40 = .ok (.invokevirtual 158, 3) := by decide +kernel
theorem dX12_move_43 : decode cX12_move 43 = .ok (.return_, 1) := by decide +kernel
theorem dX12_move_44 : decode cX12_move 44 = .ok (.aload_n 0, 1) := by decide +kernel
theorem dX12_move_45 : decode cX12_move 45 = .ok (.bipush 20, 2) := by decide +kernel
theorem dX12_move_47 : decode cX12_move 47 = .ok (.iconst 5, 1) := by decide +kernel
theorem dX12_move_48 : decode cX12_move 48 = .ok (.invokevirtual 121, 3) := by decide +kernel
theorem dX12_move_51 : decode cX12_move 51 = .ok (.i2l, 1) := by decide +kernel
theorem dX12_move_52 : decode cX12_move 52 = .ok (.bipush 16, 2) := by decide +kernel
theorem dX12_move_54 : decode cX12_move 54 = .ok (.iload_n 3, 1) := by decide +kernel
theorem dX12_move_55 : decode cX12_move 55 = .ok (.imul, 1) := by decide +kernel
theorem dX12_move_56 : decode cX12_move 56 = .ok (.lshl, 1) := by decide +kernel
theorem dX12_move_57 : decode cX12_move 57 = .ok (.lstore 4, 2) := by decide +kernel
theorem dX12_move_59 : decode cX12_move 59 = .ok (.lload 4, 2) := by decide +kernel
theorem dX12_move_61 : decode cX12_move 61 = .ok (.lstore 6, 2) := by decide +kernel
theorem dX12_move_63 : decode cX12_move 63 = .ok (.iload_n 2, 1) := by decide +kernel
theorem dX12_move_64 : decode cX12_move 64 = .ok (.ifCond .ne 15, 3) := by decide +kernel
theorem dX12_move_67 : decode cX12_move 67 = .ok (.lload 4, 2) := by decide +kernel
theorem dX12_move_69 : decode cX12_move 69 = .ok (.ldc2_w 141, 3) := by decide +kernel
theorem dX12_move_72 : decode cX12_move 72 = .ok (.lxor, 1) := by decide +kernel
theorem dX12_move_73 : decode cX12_move 73 = .ok (.iload_n 1, 1) := by decide +kernel
theorem dX12_move_74 : decode cX12_move 74 = .ok (.invokestatic 138, 3) := by decide +kernel
theorem dX12_move_77 : decode cX12_move 77 = .ok (.lstore 6, 2) := by decide +kernel
theorem dX12_move_79 : decode cX12_move 79 = .ok (.iload_n 2, 1) := by decide +kernel
theorem dX12_move_80 : decode cX12_move 80 = .ok (.iconst 3, 1) := by decide +kernel
theorem dX12_move_81 : decode cX12_move 81 = .ok (.if_icmp .ne 35, 3) := by decide +kernel
theorem dX12_move_84 : decode cX12_move 84 = .ok (.aload_n 0, 1) := by decide +kernel
theorem dX12_move_85 : decode cX12_move 85 = .ok (.aload_n 0, 1) := by decide +kernel
theorem dX12_move_86 : decode cX12_move 86 = .ok (.iconst 4, 1) := by decide +kernel
theorem dX12_move_87 : decode cX12_move 87 = .ok (.iconst 0, 1) := by decide +kernel
theorem dX12_move_88 : decode cX12_move 88 = .ok (.invokevirtual 121, 3) := by decide +kernel
theorem dX12_move_91 : decode cX12_move 91 = .ok (.invokevirtual 161, 3) := by decide +kernel
theorem dX12_move_94 : decode cX12_move 94 = .ok (.iload_n 1, 1) := by decide +kernel
theorem dX12_move_95 : decode cX12_move 95 = .ok (.invokestatic 138, 3) := by decide +kernel
theorem dX12_move_98 : decode cX12_move 98 = .ok (.ldc2_w 172, 3) := by decide +kernel
theorem dX12_move_101 : decode cX12_move 101 = .ok (.bipush 16, 2) := by decide +kernel
theorem dX12_move_103 : decode cX12_move 103 = .ok (.iload_n 3, 1) := by decide +kernel
theorem dX12_move_104 : decode cX12_move 104 = .ok (.imul, 1) := by decide +kernel
theorem dX12_move_105 : decode cX12_move 105 = .ok (.lshl, 1) := by decide +kernel
theorem dX12_move_106 : decode cX12_move 106 = .ok (.ldc2_w 141, 3) := by decide +kernel
theorem dX12_move_109 : decode cX12_move 109 = .ok (.lxor, 1) := by decide +kernel
theorem dX12_move_110 : decode cX12_move 110 = .ok (.land, 1) := by decide +kernel
theorem dX12_move_111 : decode cX12_move 111 = .ok (.lload 4, 2) := by decide +kernel
theorem dX12_move_113 : decode cX12_move 113 = .ok (.lor, 1) := by decide +kernel
theorem dX12_move_114 : decode cX12_move 114 = .ok (.lstore 6, 2) := by decide +kernel
theorem dX12_move_116 : decode cX12_move 116 = .ok (.aload_n 0, 1) := by decide +kernel
theorem dX12_move_117 : decode cX12_move 117 = .ok (.aload_n 0, 1) := by decide +kernel
theorem dX12_move_118 : decode cX12_move 118 = .ok (.iconst 4, 1) := by decide +kernel
theorem dX12_move_119 : decode cX12_move 119 = .ok (.iconst 0, 1) := by decide +kernel
theorem dX12_move_120 : decode cX12_move 120 = .ok (.invokevirtual 121, 3) := by decide +kernel
theorem dX12_move_123 : decode cX12_move 123 = .ok (.lload 6, 2) := by decide +kernel
theorem dX12_move_125 : decode cX12_move 125 = .ok (.invokevirtual 151, 3) := by decide +kernel
theorem dX12_move_128 : decode cX12_move 128 = .ok (.return_, 1) := by decide +kernel
def F_X12_move_c39 (τ : MS) : Option (MS) := some ((F_X12_none τ))
def F_X12_move_c116 (τ : MS) (w6 : Int64) : Option (MS) := ((F_X12_f τ (4 : Int32) (0 : Int32)).bind fun v4 => ((F_X12_put τ v4 w6).bind fun v5 => some (v5)))
def F_X12_move_c79 (τ : MS) (w1 : Int32) (w2 : Int32) (w3 : Int32) (w4 : Int64) (w6 : Int64) : Option (MS) := (if w2 = (3 : Int32) then ((F_X12_f τ (4 : Int32) (0 : Int32)).bind fun v6 => ((F_X12_reg τ v6).bind fun v7 => (F_X12_move_c116 τ (((F_X12_cut v7 w1) &&& ((j_lshl (65535 : Int64) ((16 : Int32) * w3)) ^^^ (-1 : Int64))) ||| w4)))) else (F_X12_move_c116 τ w6))
def F_X12_move_c59 (τ : MS) (w1 : Int32) (w2 : Int32) (w3 : Int32) (w4 : Int64) : Option (MS) := (if w2 = 0 then (F_X12_move_c79 τ w1 w2 w3 w4 (F_X12_cut (w4 ^^^ (-1 : Int64)) w1)) else (F_X12_move_c79 τ w1 w2 w3 w4 w4))
def F_X12_move_c44 (τ : MS) (w1 : Int32) (w2 : Int32) (w3 : Int32) : Option (MS) := ((F_X12_f τ (20 : Int32) (5 : Int32)).bind fun v3 => (F_X12_move_c59 τ w1 w2 w3 (j_lshl v3.toInt64 ((16 : Int32) * w3))))
def F_X12_move_c5 (τ : MS) (w1 : Int32) : Option (MS) := ((F_X12_f τ (30 : Int32) (29 : Int32)).bind fun v1 => ((F_X12_f τ (22 : Int32) (21 : Int32)).bind fun v2 => (if v1 = (1 : Int32) then (F_X12_move_c39 τ) else (if v2 ≤ (1 : Int32) then (F_X12_move_c44 τ w1 v1 v2) else (if w1 = (32 : Int32) then (F_X12_move_c39 τ) else (F_X12_move_c44 τ w1 v1 v2))))))
def F_X12_move (σ : MS)  : Option (MS) := (F_X12_move_c5 σ (F_X12_width σ))
set_option maxHeartbeats 4000000 in
set_option maxRecDepth 100000 in
theorem c_X12_move (l : Launch) (z : Cx) (r : Nat → Nat) (σ : MS) (sz : Nat) (res : MS) (hf : F_X12_move σ = some res) : Met l yX12_move (wsC yX12_move cX12_move 8 none) { frames := 3, cells := 0, slots := 0, locals := 72 } (mPc z (mW z r σ) sz [.ref (r 0)]) (gM z (va_A (mW z r σ) sz) none (mW z r res)) 0 0 (va_A (mW z r σ) sz) := by
  refine mk_m_v (own := RX12) (wf := mW z r) (by decide) rfl sz _ (Nat.le_of_ble_eq_true rfl) (fun p e s m below meth c A H locs Q ls S hK hA hP hD hS hl hend => ?_)
  have hx := S.1
  have hb := S.2.1
  have hown := S.2.2.2.1
  have hts := S.2.2.2.2
  have hl : lv_has ls 8 [(0, .ref (r 0))] := hl
  have J_c39 : ∀ (τ : MS) (H : Heap) (locs : List Loc) (ls : Array Slot), F_X12_move_c39 τ = some res → va_P z.1 vwCl (mW z r τ) H → va_D A (mW z r τ) → va_S A s.heap H locs → lv_has ls 8 [(0, .ref (r 0))] → W p l e { frames := 3, cells := 0, slots := 0, locals := 72 } s m ([.ref (r 0)] : List Value).toArray below meth c H locs 0 0 Q (F0 m 39 ls []) := by
    intro τ H locs ls hf hP hD hS hl
    unfold F_X12_move_c39 at hf
    refine lv_aload_n hx hb dX12_move_39 rfl (lv_at hl 0 rfl) ?_
    refine k_X12_none S hK hA hP hD hS tl_X12_158 ⟨Nat.le_of_ble_eq_true rfl, Nat.le_of_ble_eq_true rfl⟩ hl.1 (Nat.le_of_ble_eq_true rfl) dX12_move_40 (fun H locs hP hD hS => ?_)
    exact hend (F_X12_none τ) H locs 43 ls (Option.some.inj hf) hP hD hS dX12_move_43
  have J_c116 : ∀ (τ : MS) (w6 : Int64) (H : Heap) (locs : List Loc) (ls : Array Slot), F_X12_move_c116 τ w6 = some res → va_P z.1 vwCl (mW z r τ) H → va_D A (mW z r τ) → va_S A s.heap H locs → lv_has ls 8 [(0, .ref (r 0)), (6, .long w6)] → W p l e { frames := 3, cells := 0, slots := 0, locals := 72 } s m ([.ref (r 0)] : List Value).toArray below meth c H locs 0 0 Q (F0 m 116 ls []) := by
    intro τ w6 H locs ls hf hP hD hS hl
    unfold F_X12_move_c116 at hf
    refine lv_aload_n hx hb dX12_move_116 rfl (lv_at hl 0 rfl) ?_
    refine lv_aload_n hx hb dX12_move_117 rfl (lv_at hl 0 rfl) ?_
    refine lv_iconst (v := 4) hx hb dX12_move_118 (by decide) ?_
    refine lv_iconst (v := 0) hx hb dX12_move_119 (by decide) ?_
    obtain ⟨v4, e_v4, hf⟩ := Option.bind_eq_some_iff.mp hf
    refine k_X12_f (a0 := (4 : Int32)) (a1 := (0 : Int32)) (res := v4) (hres := e_v4) S hK hP tl_X12_121 ⟨Nat.le_of_ble_eq_true rfl, Nat.le_of_ble_eq_true rfl⟩ hl.1 (Nat.le_of_ble_eq_true rfl) dX12_move_120 ?_
    refine lv_lload hx hb dX12_move_123 (lv_at hl 1 rfl) ?_
    obtain ⟨v5, e_v5, hf⟩ := Option.bind_eq_some_iff.mp hf
    refine k_X12_put (a0 := v4) (a1 := w6) (res := v5) (hres := e_v5) S hK hA hP hD hS tl_X12_151 ⟨Nat.le_of_ble_eq_true rfl, Nat.le_of_ble_eq_true rfl⟩ hl.1 (Nat.le_of_ble_eq_true rfl) dX12_move_125 (fun H locs hP hD hS => ?_)
    exact hend v5 H locs 128 ls (Option.some.inj hf) hP hD hS dX12_move_128
  have J_c79 : ∀ (τ : MS) (w1 : Int32) (w2 : Int32) (w3 : Int32) (w4 : Int64) (w6 : Int64) (H : Heap) (locs : List Loc) (ls : Array Slot), F_X12_move_c79 τ w1 w2 w3 w4 w6 = some res → va_P z.1 vwCl (mW z r τ) H → va_D A (mW z r τ) → va_S A s.heap H locs → lv_has ls 8 [(0, .ref (r 0)), (1, .int w1), (2, .int w2), (3, .int w3), (4, .long w4), (6, .long w6)] → W p l e { frames := 3, cells := 0, slots := 0, locals := 72 } s m ([.ref (r 0)] : List Value).toArray below meth c H locs 0 0 Q (F0 m 79 ls []) := by
    intro τ w1 w2 w3 w4 w6 H locs ls hf hP hD hS hl
    unfold F_X12_move_c79 at hf
    refine lv_iload_n hx hb dX12_move_79 rfl (lv_at hl 2 rfl) ?_
    refine lv_iconst (v := 3) hx hb dX12_move_80 (by decide) ?_
    refine lv_icmp_ne (tgt := 116) hx hb dX12_move_81 (by decide) (fun c_81 => ?_) (fun c_81 => ?_)
    · rw [if_neg c_81] at hf
      exact J_c116 τ w6 H locs ls hf hP hD hS (lv_sub hl [0, 5] rfl)
    · rw [if_pos c_81] at hf
      refine lv_aload_n hx hb dX12_move_84 rfl (lv_at hl 0 rfl) ?_
      refine lv_aload_n hx hb dX12_move_85 rfl (lv_at hl 0 rfl) ?_
      refine lv_iconst (v := 4) hx hb dX12_move_86 (by decide) ?_
      refine lv_iconst (v := 0) hx hb dX12_move_87 (by decide) ?_
      obtain ⟨v6, e_v6, hf⟩ := Option.bind_eq_some_iff.mp hf
      refine k_X12_f (a0 := (4 : Int32)) (a1 := (0 : Int32)) (res := v6) (hres := e_v6) S hK hP tl_X12_121 ⟨Nat.le_of_ble_eq_true rfl, Nat.le_of_ble_eq_true rfl⟩ hl.1 (Nat.le_of_ble_eq_true rfl) dX12_move_88 ?_
      obtain ⟨v7, e_v7, hf⟩ := Option.bind_eq_some_iff.mp hf
      refine k_X12_reg (a0 := v6) (res := v7) (hres := e_v7) S hK hP tl_X12_161 ⟨Nat.le_of_ble_eq_true rfl, Nat.le_of_ble_eq_true rfl⟩ hl.1 (Nat.le_of_ble_eq_true rfl) dX12_move_91 ?_
      refine lv_iload_n hx hb dX12_move_94 rfl (lv_at hl 1 rfl) ?_
      refine k_X12_cut (a0 := v7) (a1 := w1) S tl_X12_138 ⟨Nat.le_of_ble_eq_true rfl, Nat.le_of_ble_eq_true rfl⟩ hl.1 (Nat.le_of_ble_eq_true rfl) dX12_move_95 ?_
      refine lv_ldc2 (v := 65535) hx hb hown (hts _ tk_X12_172) dX12_move_98 ?_
      refine lv_bipush (v := 16) hx hb dX12_move_101 (by decide) ?_
      refine lv_iload_n hx hb dX12_move_103 rfl (lv_at hl 3 rfl) ?_
      refine lv_imul hx hb dX12_move_104 ?_
      refine lv_lshl (v := (j_lshl (65535 : Int64) ((16 : Int32) * w3))) hx hb dX12_move_105 rfl ?_
      refine lv_ldc2 (v := -1) hx hb hown (hts _ tk_X12_141) dX12_move_106 ?_
      refine lv_lxor hx hb dX12_move_109 ?_
      refine lv_land hx hb dX12_move_110 ?_
      refine lv_lload hx hb dX12_move_111 (lv_at hl 4 rfl) ?_
      refine lv_lor hx hb dX12_move_113 ?_
      refine lv_lstore (lv' := [(6, .long (((F_X12_cut v7 w1) &&& ((j_lshl (65535 : Int64) ((16 : Int32) * w3)) ^^^ (-1 : Int64))) ||| w4)), (0, .ref (r 0)), (1, .int w1), (2, .int w2), (3, .int w3), (4, .long w4)]) hx hb dX12_move_114 hl (by decide) rfl (fun ls hl => ?_)
      exact J_c116 τ (((F_X12_cut v7 w1) &&& ((j_lshl (65535 : Int64) ((16 : Int32) * w3)) ^^^ (-1 : Int64))) ||| w4) H locs ls hf hP hD hS (lv_sub hl [1, 0] rfl)
  have J_c59 : ∀ (τ : MS) (w1 : Int32) (w2 : Int32) (w3 : Int32) (w4 : Int64) (H : Heap) (locs : List Loc) (ls : Array Slot), F_X12_move_c59 τ w1 w2 w3 w4 = some res → va_P z.1 vwCl (mW z r τ) H → va_D A (mW z r τ) → va_S A s.heap H locs → lv_has ls 8 [(0, .ref (r 0)), (1, .int w1), (2, .int w2), (3, .int w3), (4, .long w4)] → W p l e { frames := 3, cells := 0, slots := 0, locals := 72 } s m ([.ref (r 0)] : List Value).toArray below meth c H locs 0 0 Q (F0 m 59 ls []) := by
    intro τ w1 w2 w3 w4 H locs ls hf hP hD hS hl
    unfold F_X12_move_c59 at hf
    refine lv_lload hx hb dX12_move_59 (lv_at hl 4 rfl) ?_
    refine lv_lstore (lv' := [(6, .long w4), (0, .ref (r 0)), (1, .int w1), (2, .int w2), (3, .int w3), (4, .long w4)]) hx hb dX12_move_61 hl (by decide) rfl (fun ls hl => ?_)
    refine lv_iload_n hx hb dX12_move_63 rfl (lv_at hl 3 rfl) ?_
    refine lv_if_ne (tgt := 79) hx hb dX12_move_64 (by decide) (fun c_64 => ?_) (fun c_64 => ?_)
    · rw [if_neg c_64] at hf
      exact J_c79 τ w1 w2 w3 w4 w4 H locs ls hf hP hD hS (lv_sub hl [1, 2, 3, 4, 5, 0] rfl)
    · rw [if_pos c_64] at hf
      refine lv_lload hx hb dX12_move_67 (lv_at hl 5 rfl) ?_
      refine lv_ldc2 (v := -1) hx hb hown (hts _ tk_X12_141) dX12_move_69 ?_
      refine lv_lxor hx hb dX12_move_72 ?_
      refine lv_iload_n hx hb dX12_move_73 rfl (lv_at hl 2 rfl) ?_
      refine k_X12_cut (a0 := (w4 ^^^ (-1 : Int64))) (a1 := w1) S tl_X12_138 ⟨Nat.le_of_ble_eq_true rfl, Nat.le_of_ble_eq_true rfl⟩ hl.1 (Nat.le_of_ble_eq_true rfl) dX12_move_74 ?_
      refine lv_lstore (lv' := [(6, .long (F_X12_cut (w4 ^^^ (-1 : Int64)) w1)), (0, .ref (r 0)), (1, .int w1), (2, .int w2), (3, .int w3), (4, .long w4)]) hx hb dX12_move_77 hl (by decide) rfl (fun ls hl => ?_)
      exact J_c79 τ w1 w2 w3 w4 (F_X12_cut (w4 ^^^ (-1 : Int64)) w1) H locs ls hf hP hD hS (lv_sub hl [1, 2, 3, 4, 5, 0] rfl)
  have J_c44 : ∀ (τ : MS) (w1 : Int32) (w2 : Int32) (w3 : Int32) (H : Heap) (locs : List Loc) (ls : Array Slot), F_X12_move_c44 τ w1 w2 w3 = some res → va_P z.1 vwCl (mW z r τ) H → va_D A (mW z r τ) → va_S A s.heap H locs → lv_has ls 8 [(0, .ref (r 0)), (1, .int w1), (2, .int w2), (3, .int w3)] → W p l e { frames := 3, cells := 0, slots := 0, locals := 72 } s m ([.ref (r 0)] : List Value).toArray below meth c H locs 0 0 Q (F0 m 44 ls []) := by
    intro τ w1 w2 w3 H locs ls hf hP hD hS hl
    unfold F_X12_move_c44 at hf
    refine lv_aload_n hx hb dX12_move_44 rfl (lv_at hl 0 rfl) ?_
    refine lv_bipush (v := 20) hx hb dX12_move_45 (by decide) ?_
    refine lv_iconst (v := 5) hx hb dX12_move_47 (by decide) ?_
    obtain ⟨v3, e_v3, hf⟩ := Option.bind_eq_some_iff.mp hf
    refine k_X12_f (a0 := (20 : Int32)) (a1 := (5 : Int32)) (res := v3) (hres := e_v3) S hK hP tl_X12_121 ⟨Nat.le_of_ble_eq_true rfl, Nat.le_of_ble_eq_true rfl⟩ hl.1 (Nat.le_of_ble_eq_true rfl) dX12_move_48 ?_
    refine lv_i2l hx hb dX12_move_51 rfl ?_
    refine lv_bipush (v := 16) hx hb dX12_move_52 (by decide) ?_
    refine lv_iload_n hx hb dX12_move_54 rfl (lv_at hl 3 rfl) ?_
    refine lv_imul hx hb dX12_move_55 ?_
    refine lv_lshl (v := (j_lshl v3.toInt64 ((16 : Int32) * w3))) hx hb dX12_move_56 rfl ?_
    refine lv_lstore (lv' := [(4, .long (j_lshl v3.toInt64 ((16 : Int32) * w3))), (0, .ref (r 0)), (1, .int w1), (2, .int w2), (3, .int w3)]) hx hb dX12_move_57 hl (by decide) rfl (fun ls hl => ?_)
    exact J_c59 τ w1 w2 w3 (j_lshl v3.toInt64 ((16 : Int32) * w3)) H locs ls hf hP hD hS (lv_sub hl [1, 2, 3, 4, 0] rfl)
  have J_c5 : ∀ (τ : MS) (w1 : Int32) (H : Heap) (locs : List Loc) (ls : Array Slot), F_X12_move_c5 τ w1 = some res → va_P z.1 vwCl (mW z r τ) H → va_D A (mW z r τ) → va_S A s.heap H locs → lv_has ls 8 [(0, .ref (r 0)), (1, .int w1)] → W p l e { frames := 3, cells := 0, slots := 0, locals := 72 } s m ([.ref (r 0)] : List Value).toArray below meth c H locs 0 0 Q (F0 m 5 ls []) := by
    intro τ w1 H locs ls hf hP hD hS hl
    unfold F_X12_move_c5 at hf
    refine lv_aload_n hx hb dX12_move_5 rfl (lv_at hl 0 rfl) ?_
    refine lv_bipush (v := 30) hx hb dX12_move_6 (by decide) ?_
    refine lv_bipush (v := 29) hx hb dX12_move_8 (by decide) ?_
    obtain ⟨v1, e_v1, hf⟩ := Option.bind_eq_some_iff.mp hf
    refine k_X12_f (a0 := (30 : Int32)) (a1 := (29 : Int32)) (res := v1) (hres := e_v1) S hK hP tl_X12_121 ⟨Nat.le_of_ble_eq_true rfl, Nat.le_of_ble_eq_true rfl⟩ hl.1 (Nat.le_of_ble_eq_true rfl) dX12_move_10 ?_
    refine lv_istore_n (lv' := [(2, .int v1), (0, .ref (r 0)), (1, .int w1)]) hx hb dX12_move_13 rfl hl (by decide) rfl (fun ls hl => ?_)
    refine lv_aload_n hx hb dX12_move_14 rfl (lv_at hl 1 rfl) ?_
    refine lv_bipush (v := 22) hx hb dX12_move_15 (by decide) ?_
    refine lv_bipush (v := 21) hx hb dX12_move_17 (by decide) ?_
    obtain ⟨v2, e_v2, hf⟩ := Option.bind_eq_some_iff.mp hf
    refine k_X12_f (a0 := (22 : Int32)) (a1 := (21 : Int32)) (res := v2) (hres := e_v2) S hK hP tl_X12_121 ⟨Nat.le_of_ble_eq_true rfl, Nat.le_of_ble_eq_true rfl⟩ hl.1 (Nat.le_of_ble_eq_true rfl) dX12_move_19 ?_
    refine lv_istore_n (lv' := [(3, .int v2), (2, .int v1), (0, .ref (r 0)), (1, .int w1)]) hx hb dX12_move_22 rfl hl (by decide) rfl (fun ls hl => ?_)
    refine lv_iload_n hx hb dX12_move_23 rfl (lv_at hl 1 rfl) ?_
    refine lv_iconst (v := 1) hx hb dX12_move_24 (by decide) ?_
    refine lv_icmp_eq (tgt := 39) hx hb dX12_move_25 (by decide) (fun c_25 => ?_) (fun c_25 => ?_)
    · rw [if_pos c_25] at hf
      exact J_c39 τ H locs ls hf hP hD hS (lv_sub hl [2] rfl)
    · rw [if_neg c_25] at hf
      refine lv_iload_n hx hb dX12_move_28 rfl (lv_at hl 0 rfl) ?_
      refine lv_iconst (v := 1) hx hb dX12_move_29 (by decide) ?_
      refine lv_icmp_le (tgt := 44) hx hb dX12_move_30 (by decide) (fun c_30 => ?_) (fun c_30 => ?_)
      · rw [if_pos c_30] at hf
        exact J_c44 τ w1 v1 v2 H locs ls hf hP hD hS (lv_sub hl [2, 3, 1, 0] rfl)
      · rw [if_neg c_30] at hf
        refine lv_iload_n hx hb dX12_move_33 rfl (lv_at hl 3 rfl) ?_
        refine lv_bipush (v := 32) hx hb dX12_move_34 (by decide) ?_
        refine lv_icmp_ne (tgt := 44) hx hb dX12_move_36 (by decide) (fun c_36 => ?_) (fun c_36 => ?_)
        · rw [if_neg c_36] at hf
          exact J_c44 τ w1 v1 v2 H locs ls hf hP hD hS (lv_sub hl [2, 3, 1, 0] rfl)
        · rw [if_pos c_36] at hf
          exact J_c39 τ H locs ls hf hP hD hS (lv_sub hl [2] rfl)
  unfold F_X12_move at hf
  refine lv_aload_n hx hb dX12_move_0 rfl (lv_at hl 0 rfl) ?_
  refine k_X12_width S hK hP tl_X12_129 ⟨Nat.le_of_ble_eq_true rfl, Nat.le_of_ble_eq_true rfl⟩ hl.1 (Nat.le_of_ble_eq_true rfl) dX12_move_1 ?_
  refine lv_istore_n (lv' := [(1, .int (F_X12_width σ)), (0, .ref (r 0))]) hx hb dX12_move_4 rfl hl (by decide) rfl (fun ls hl => ?_)
  exact J_c5 σ (F_X12_width σ) H locs ls hf hP hD hS (lv_sub hl [1, 0] rfl)
theorem k_X12_move {p : Program} {l : Launch} {e : Env} {R : Room} {s : State} {m : MethodId} {args : Array Value} {below : List Frame} {meth : Method} {c : Code} {H : Heap} {locs : List Loc} {Q : State → Prop} {cc : ByteArray} {pc : Nat} {ls : Array Slot} {rest : List Value} {own : String} {index nL : Nat} {A : Nat → Prop} {z : Cx} {r : Nat → Nat} {σ : MS} {res : MS} (hres : F_X12_move σ = some res) (S : CallFix p m c cc nL s args tbG own) (hK : va_K z.1 vwCl (cxT z) s) (hA : ∀ q, s.heap.size ≤ q → A q) (hP : va_P z.1 vwCl (mW z r σ) H) (hD : va_D A (mW z r σ)) (hS : va_S A s.heap H locs) (hl : Cond.methodLink own index yX12_move ∈ tbG) (hR : 3 + 1 ≤ R.frames ∧ 8 + (8 + 11) + 72 ≤ R.locals) (hsz : ls.size = nL) (hcat : (rest.map fun v => v.category).sum ≤ 8) (hdg : decode cc pc = .ok (.invokevirtual index, 3)) (kk : ∀ (H : Heap) (locs : List Loc), va_P z.1 vwCl (mW z r res) H → va_D A (mW z r res) → va_S A s.heap H locs → W p l e R s m args below meth c H locs 0 0 Q (F0 m (pc + 3) ls (rest))) : W p l e R s m args below meth c H locs 0 0 Q (F0 m pc ls (.ref (r 0) :: rest)) :=
  km (As := []) (ov := none) (w' := mW z r res) (q0 := 0) (ci := 11) S hK hA hP hD hS (c_X12_move l z r σ H.size _ hres) ⟨tb_cB 0 S.2.2.2.2 tc_X12_move ti_X12 hl rfl rfl (by decide +kernel) hR, S.2.2.2.2 _ tm_X12_move, S.2.2.2.2 _ te_X12_move⟩ rfl rfl rfl rfl hsz rfl hcat hdg kk

