theorem dX12_oneStep_0 : decode cX12_oneStep 0 = .ok (.aload_n 0, 1) := by decide +kernel
theorem dX12_oneStep_1 : decode cX12_oneStep 1 = .ok (.getfield 60, 3) := by decide +kernel
theorem dX12_oneStep_4 : decode cX12_oneStep 4 = .ok (.ifCond .eq 22, 3) := by decide +kernel
theorem dX12_oneStep_7 : decode cX12_oneStep 7 = .ok (.aload_n 0, 1) := by decide +kernel
theorem dX12_oneStep_8 : decode cX12_oneStep 8 = .ok (.getfield 34, 3) := by decide +kernel
theorem dX12_oneStep_11 : decode cX12_oneStep 11 = .ok (.ifCond .ne 15, 3) := by decide +kernel
theorem dX12_oneStep_14 : decode cX12_oneStep 14 = .ok (.aload_n 0, 1) := by decide +kernel
theorem dX12_oneStep_15 : decode cX12_oneStep 15 = .ok (.aload_n 0, 1) := by decide +kernel
theorem dX12_oneStep_16 : decode cX12_oneStep 16 = .ok (.getfield 22, 3) := by decide +kernel
theorem dX12_oneStep_19 : decode cX12_oneStep 19 = .ok (.iconst 2, 1) := by decide +kernel
theorem dX12_oneStep_20 : decode cX12_oneStep 20 = .ok (.laload, 1) := by decide +kernel
theorem dX12_oneStep_21 : decode cX12_oneStep 21 = .ok (.iconst 1, 1) := by decide +kernel
theorem dX12_oneStep_22 : decode cX12_oneStep 22 = .ok (.invokevirtual 102, 3) := by decide +kernel
theorem dX12_oneStep_25 : decode cX12_oneStep 25 = .ok (.return_, 1) := by decide +kernel
theorem dX12_oneStep_26 : decode cX12_oneStep 26 = .ok (.aload_n 0, 1) := by decide +kernel
theorem dX12_oneStep_27 : decode cX12_oneStep 27 = .ok (.getfield 22, 3) := by decide +kernel
theorem dX12_oneStep_30 : decode cX12_oneStep 30 = .ok (.iconst 2, 1) := by decide +kernel
theorem dX12_oneStep_31 : decode cX12_oneStep 31 = .ok (.laload, 1) := by decide +kernel
theorem dX12_oneStep_32 : decode cX12_oneStep 32 = .ok (.ldc2_w 88, 3) := by decide +kernel
theorem dX12_oneStep_35 : decode cX12_oneStep 35 = .ok (.land, 1) := by decide +kernel
theorem dX12_oneStep_36 : decode cX12_oneStep 36 = .ok (.lconst 0, 1) := by decide +kernel
theorem dX12_oneStep_37 : decode cX12_oneStep 37 = .ok (.lcmp, 1) := by decide +kernel
theorem dX12_oneStep_38 : decode cX12_oneStep 38 = .ok (.ifCond .eq 30, 3) := by decide +kernel
theorem dX12_oneStep_41 : decode cX12_oneStep 41 = .ok (.aload_n 0, 1) := by decide +kernel
theorem dX12_oneStep_42 : decode cX12_oneStep 42 = .ok (.getfield 22, 3) := by decide +kernel
theorem dX12_oneStep_45 : decode cX12_oneStep 45 = .ok (.bipush 9, 2) := by decide +kernel
theorem dX12_oneStep_47 : decode cX12_oneStep 47 = .ok (.aload_n 0, 1) := by decide +kernel
theorem dX12_oneStep_48 : decode cX12_oneStep 48 = .ok (.getfield 22, 3) := by decide +kernel
theorem dX12_oneStep_51 : decode cX12_oneStep 51 = .ok (.iconst 2, 1) := by decide +kernel
theorem dX12_oneStep_52 : decode cX12_oneStep 52 = .ok (.laload, 1) := by decide +kernel
theorem dX12_oneStep_53 : decode cX12_oneStep 53 = .ok (.lastore, 1) := by decide +kernel
theorem dX12_oneStep_54 : decode cX12_oneStep 54 = .ok (.aload_n 0, 1) := by decide +kernel
theorem dX12_oneStep_55 : decode cX12_oneStep 55 = .ok (.bipush 34, 2) := by decide +kernel
theorem dX12_oneStep_57 : decode cX12_oneStep 57 = .ok (.lconst 0, 1) := by decide +kernel
theorem dX12_oneStep_58 : decode cX12_oneStep 58 = .ok (.aload_n 0, 1) := by decide +kernel
theorem dX12_oneStep_59 : decode cX12_oneStep 59 = .ok (.getfield 22, 3) := by decide +kernel
theorem dX12_oneStep_62 : decode cX12_oneStep 62 = .ok (.iconst 2, 1) := by decide +kernel
theorem dX12_oneStep_63 : decode cX12_oneStep 63 = .ok (.laload, 1) := by decide +kernel
theorem dX12_oneStep_64 : decode cX12_oneStep 64 = .ok (.invokevirtual 106, 3) := by decide +kernel
theorem dX12_oneStep_67 : decode cX12_oneStep 67 = .ok (.return_, 1) := by decide +kernel
theorem dX12_oneStep_68 : decode cX12_oneStep 68 = .ok (.aload_n 0, 1) := by decide +kernel
theorem dX12_oneStep_69 : decode cX12_oneStep 69 = .ok (.aload_n 0, 1) := by decide +kernel
theorem dX12_oneStep_70 : decode cX12_oneStep 70 = .ok (.getfield 22, 3) := by decide +kernel
theorem dX12_oneStep_73 : decode cX12_oneStep 73 = .ok (.iconst 2, 1) := by decide +kernel
theorem dX12_oneStep_74 : decode cX12_oneStep 74 = .ok (.laload, 1) := by decide +kernel
theorem dX12_oneStep_75 : decode cX12_oneStep 75 = .ok (.iconst 2, 1) := by decide +kernel
theorem dX12_oneStep_76 : decode cX12_oneStep 76 = .ok (.aload_n 0, 1) := by decide +kernel
theorem dX12_oneStep_77 : decode cX12_oneStep 77 = .ok (.getfield 28, 3) := by decide +kernel
theorem dX12_oneStep_80 : decode cX12_oneStep 80 = .ok (.invokevirtual 200, 3) := by decide +kernel
theorem dX12_oneStep_83 : decode cX12_oneStep 83 = .ok (.ifCond .eq 11, 3) := by decide +kernel
theorem dX12_oneStep_86 : decode cX12_oneStep 86 = .ok (.aload_n 0, 1) := by decide +kernel
theorem dX12_oneStep_87 : decode cX12_oneStep 87 = .ok (.iconst 4, 1) := by decide +kernel
theorem dX12_oneStep_88 : decode cX12_oneStep 88 = .ok (.invokevirtual 204, 3) := by decide +kernel
theorem dX12_oneStep_91 : decode cX12_oneStep 91 = .ok (.ifCond .ne 39, 3) := by decide +kernel
theorem dX12_oneStep_94 : decode cX12_oneStep 94 = .ok (.aload_n 0, 1) := by decide +kernel
theorem dX12_oneStep_95 : decode cX12_oneStep 95 = .ok (.getfield 22, 3) := by decide +kernel
theorem dX12_oneStep_98 : decode cX12_oneStep 98 = .ok (.bipush 9, 2) := by decide +kernel
theorem dX12_oneStep_100 : decode cX12_oneStep 100 = .ok (.aload_n 0, 1) := by decide +kernel
theorem dX12_oneStep_101 : decode cX12_oneStep 101 = .ok (.getfield 22, 3) := by decide +kernel
theorem dX12_oneStep_104 : decode cX12_oneStep 104 = .ok (.iconst 2, 1) := by decide +kernel
theorem dX12_oneStep_105 : decode cX12_oneStep 105 = .ok (.laload, 1) := by decide +kernel
theorem dX12_oneStep_106 : decode cX12_oneStep 106 = .ok (.lastore, 1) := by decide +kernel
theorem dX12_oneStep_107 : decode cX12_oneStep 107 = .ok (.aload_n 0, 1) := by decide +kernel
theorem dX12_oneStep_108 : decode cX12_oneStep 108 = .ok (.bipush 32, 2) := by decide +kernel
theorem dX12_oneStep_110 : decode cX12_oneStep 110 = .ok (.aload_n 0, 1) := by decide +kernel
theorem dX12_oneStep_111 : decode cX12_oneStep 111 = .ok (.getfield 28, 3) := by decide +kernel
theorem dX12_oneStep_114 : decode cX12_oneStep 114 = .ok (.iadd, 1) := by decide +kernel
theorem dX12_oneStep_115 : decode cX12_oneStep 115 = .ok (.aload_n 0, 1) := by decide +kernel
theorem dX12_oneStep_116 : decode cX12_oneStep 116 = .ok (.getfield 41, 3) := by decide +kernel
theorem dX12_oneStep_119 : decode cX12_oneStep 119 = .ok (.i2l, 1) := by decide +kernel
theorem dX12_oneStep_120 : decode cX12_oneStep 120 = .ok (.aload_n 0, 1) := by decide +kernel
theorem dX12_oneStep_121 : decode cX12_oneStep 121 = .ok (.getfield 22, 3) := by decide +kernel
theorem dX12_oneStep_124 : decode cX12_oneStep 124 = .ok (.iconst 2, 1) := by decide +kernel
theorem dX12_oneStep_125 : decode cX12_oneStep 125 = .ok (.laload, 1) := by decide +kernel
theorem dX12_oneStep_126 : decode cX12_oneStep 126 = .ok (.invokevirtual 106, 3) := by decide +kernel
theorem dX12_oneStep_129 : decode cX12_oneStep 129 = .ok (.return_, 1) := by decide +kernel
theorem dX12_oneStep_130 : decode cX12_oneStep 130 = .ok (.aload_n 0, 1) := by decide +kernel
theorem dX12_oneStep_131 : decode cX12_oneStep 131 = .ok (.aload_n 0, 1) := by decide +kernel
theorem dX12_oneStep_132 : decode cX12_oneStep 132 = .ok (.aload_n 0, 1) := by decide +kernel
theorem dX12_oneStep_133 : decode cX12_oneStep 133 = .ok (.getfield 44, 3) := by decide +kernel
theorem dX12_oneStep_136 : decode cX12_oneStep 136 = .ok (.l2i, 1) := by decide +kernel
theorem dX12_oneStep_137 : decode cX12_oneStep 137 = .ok (.iconst 4, 1) := by decide +kernel
theorem dX12_oneStep_138 : decode cX12_oneStep 138 = .ok (.invokevirtual 64, 3) := by decide +kernel
theorem dX12_oneStep_141 : decode cX12_oneStep 141 = .ok (.l2i, 1) := by decide +kernel
theorem dX12_oneStep_142 : decode cX12_oneStep 142 = .ok (.putfield 57, 3) := by decide +kernel
theorem dX12_oneStep_145 : decode cX12_oneStep 145 = .ok (.aload_n 0, 1) := by decide +kernel
theorem dX12_oneStep_146 : decode cX12_oneStep 146 = .ok (.iconst 0, 1) := by decide +kernel
theorem dX12_oneStep_147 : decode cX12_oneStep 147 = .ok (.putfield 37, 3) := by decide +kernel
theorem dX12_oneStep_150 : decode cX12_oneStep 150 = .ok (.aload_n 0, 1) := by decide +kernel
theorem dX12_oneStep_151 : decode cX12_oneStep 151 = .ok (.invokevirtual 304, 3) := by decide +kernel
theorem dX12_oneStep_154 : decode cX12_oneStep 154 = .ok (.aload_n 0, 1) := by decide +kernel
theorem dX12_oneStep_155 : decode cX12_oneStep 155 = .ok (.getfield 37, 3) := by decide +kernel
theorem dX12_oneStep_158 : decode cX12_oneStep 158 = .ok (.ifCond .ne 15, 3) := by decide +kernel
theorem dX12_oneStep_161 : decode cX12_oneStep 161 = .ok (.aload_n 0, 1) := by decide +kernel
theorem dX12_oneStep_162 : decode cX12_oneStep 162 = .ok (.getfield 22, 3) := by decide +kernel
theorem dX12_oneStep_165 : decode cX12_oneStep 165 = .ok (.iconst 2, 1) := by decide +kernel
theorem dX12_oneStep_166 : decode cX12_oneStep 166 = .ok (.dup2, 1) := by decide +kernel
theorem dX12_oneStep_167 : decode cX12_oneStep 167 = .ok (.laload, 1) := by decide +kernel
theorem dX12_oneStep_168 : decode cX12_oneStep 168 = .ok (.ldc2_w 90, 3) := by decide +kernel
theorem dX12_oneStep_171 : decode cX12_oneStep 171 = .ok (.ladd, 1) := by decide +kernel
theorem dX12_oneStep_172 : decode cX12_oneStep 172 = .ok (.lastore, 1) := by decide +kernel
theorem dX12_oneStep_173 : decode cX12_oneStep 173 = .ok (.return_, 1) := by decide +kernel
def F_X12_oneStep_c94 (τ : MS) : Option (MS) := some ((F_X12_exception (mu_state τ (vp_updL (m_state τ) (9 : Int32).toNatClampNeg (m_state τ (2 : Int32).toNatClampNeg))) ((32 : Int32) + (m_level (mu_state τ (vp_updL (m_state τ) (9 : Int32).toNatClampNeg (m_state τ (2 : Int32).toNatClampNeg))))) (m_faultWhat (mu_state τ (vp_updL (m_state τ) (9 : Int32).toNatClampNeg (m_state τ (2 : Int32).toNatClampNeg)))).toInt64 (m_state (mu_state τ (vp_updL (m_state τ) (9 : Int32).toNatClampNeg (m_state τ (2 : Int32).toNatClampNeg))) (2 : Int32).toNatClampNeg)))
def F_X12_oneStep_c26 (τ : MS) : Option (MS) := (if ((m_state τ (2 : Int32).toNatClampNeg) &&& (3 : Int64)) = (0 : Int64) then ((F_X12_leads τ (m_state τ (2 : Int32).toNatClampNeg) (2 : Int32) (m_level τ)).bind fun v1 => (if v1.1 = true then (if (F_X12_inside v1.2 (4 : Int32)).1 = true then ((F_X12_bytes (F_X12_inside v1.2 (4 : Int32)).2 (m_place (F_X12_inside v1.2 (4 : Int32)).2).toInt32 (4 : Int32)).bind fun v2 => ((F_X12_does (mu_calls (mu_ins (F_X12_inside v1.2 (4 : Int32)).2 v2.toInt32) false)).bind fun v3 => (if (m_calls v3) = true then some (v3) else some ((mu_state v3 (vp_updL (m_state v3) (2 : Int32).toNatClampNeg ((m_state v3 (2 : Int32).toNatClampNeg) + (4 : Int64)))))))) else (F_X12_oneStep_c94 (F_X12_inside v1.2 (4 : Int32)).2)) else (F_X12_oneStep_c94 v1.2))) else some ((F_X12_exception (mu_state τ (vp_updL (m_state τ) (9 : Int32).toNatClampNeg (m_state τ (2 : Int32).toNatClampNeg))) (34 : Int32) (0 : Int64) (m_state (mu_state τ (vp_updL (m_state τ) (9 : Int32).toNatClampNeg (m_state τ (2 : Int32).toNatClampNeg))) (2 : Int32).toNatClampNeg))))
def F_X12_oneStep (σ : MS)  : Option (MS) := (if (m_asked σ) = true then (if (m_masked σ) = 0 then some ((F_X12_enters σ (m_state σ (2 : Int32).toNatClampNeg) true)) else (F_X12_oneStep_c26 σ)) else (F_X12_oneStep_c26 σ))
set_option maxHeartbeats 4000000 in
set_option maxRecDepth 100000 in
theorem c_X12_oneStep (l : Launch) (z : Cx) (r : Nat → Nat) (σ : MS) (sz : Nat) (res : MS) (hf : F_X12_oneStep σ = some res) : Met l yX12_oneStep (wsC yX12_oneStep cX12_oneStep 1 none) { frames := 7, cells := 0, slots := 0, locals := 190 } (mPc z (mW z r σ) sz [.ref (r 0)]) (gM z (va_A (mW z r σ) sz) none (mW z r res)) 0 0 (va_A (mW z r σ) sz) := by
  refine mk_m_v (own := RX12) (wf := mW z r) (by decide) rfl sz _ (Nat.le_of_ble_eq_true rfl) (fun p e s m below meth c A H locs Q ls S hK hA hP hD hS hl hend => ?_)
  have hx := S.1
  have hb := S.2.1
  have hown := S.2.2.2.1
  have hts := S.2.2.2.2
  have hl : lv_has ls 1 [(0, .ref (r 0))] := hl
  have J_c94 : ∀ (τ : MS) (H : Heap) (locs : List Loc) (ls : Array Slot), F_X12_oneStep_c94 τ = some res → va_P z.1 vwCl (mW z r τ) H → va_D A (mW z r τ) → va_S A s.heap H locs → lv_has ls 1 [(0, .ref (r 0))] → W p l e { frames := 7, cells := 0, slots := 0, locals := 190 } s m ([.ref (r 0)] : List Value).toArray below meth c H locs 0 0 Q (F0 m 94 ls []) := by
    intro τ H locs ls hf hP hD hS hl
    unfold F_X12_oneStep_c94 at hf
    refine lv_aload_n hx hb dX12_oneStep_94 rfl (lv_at hl 0 rfl) ?_
    refine fg_X12_state S hK hP tf_X12_22 dX12_oneStep_95 ?_
    refine lv_bipush (v := 9) hx hb dX12_oneStep_98 (by decide) ?_
    refine lv_aload_n hx hb dX12_oneStep_100 rfl (lv_at hl 0 rfl) ?_
    refine fg_X12_state S hK hP tf_X12_22 dX12_oneStep_101 ?_
    refine lv_iconst (v := 2) hx hb dX12_oneStep_104 (by decide) ?_
    refine al_m_state S hK hP (show vp_in (2 : Int32) 11 by unfold vp_in; decide) dX12_oneStep_105 ?_
    refine ar_m_state (x := (m_state τ (2 : Int32).toNatClampNeg)) S hK hP hD hS (show vp_in (9 : Int32) 11 by unfold vp_in; decide) dX12_oneStep_106 (fun H locs hP hD hS => ?_)
    refine lv_aload_n hx hb dX12_oneStep_107 rfl (lv_at hl 0 rfl) ?_
    refine lv_bipush (v := 32) hx hb dX12_oneStep_108 (by decide) ?_
    refine lv_aload_n hx hb dX12_oneStep_110 rfl (lv_at hl 0 rfl) ?_
    refine fg_X12_level S hK hP tf_X12_28 dX12_oneStep_111 ?_
    refine lv_iadd hx hb dX12_oneStep_114 ?_
    refine lv_aload_n hx hb dX12_oneStep_115 rfl (lv_at hl 0 rfl) ?_
    refine fg_X12_faultWhat S hK hP tf_X12_41 dX12_oneStep_116 ?_
    refine lv_i2l hx hb dX12_oneStep_119 rfl ?_
    refine lv_aload_n hx hb dX12_oneStep_120 rfl (lv_at hl 0 rfl) ?_
    refine fg_X12_state S hK hP tf_X12_22 dX12_oneStep_121 ?_
    refine lv_iconst (v := 2) hx hb dX12_oneStep_124 (by decide) ?_
    refine al_m_state S hK hP (show vp_in (2 : Int32) 11 by unfold vp_in; decide) dX12_oneStep_125 ?_
    refine k_X12_exception (a0 := ((32 : Int32) + (m_level (mu_state τ (vp_updL (m_state τ) (9 : Int32).toNatClampNeg (m_state τ (2 : Int32).toNatClampNeg)))))) (a1 := (m_faultWhat (mu_state τ (vp_updL (m_state τ) (9 : Int32).toNatClampNeg (m_state τ (2 : Int32).toNatClampNeg)))).toInt64) (a2 := (m_state (mu_state τ (vp_updL (m_state τ) (9 : Int32).toNatClampNeg (m_state τ (2 : Int32).toNatClampNeg))) (2 : Int32).toNatClampNeg)) S hK hA hP hD hS tl_X12_106 ⟨Nat.le_of_ble_eq_true rfl, Nat.le_of_ble_eq_true rfl⟩ hl.1 (Nat.le_of_ble_eq_true rfl) dX12_oneStep_126 (fun H locs hP hD hS => ?_)
    exact hend (F_X12_exception (mu_state τ (vp_updL (m_state τ) (9 : Int32).toNatClampNeg (m_state τ (2 : Int32).toNatClampNeg))) ((32 : Int32) + (m_level (mu_state τ (vp_updL (m_state τ) (9 : Int32).toNatClampNeg (m_state τ (2 : Int32).toNatClampNeg))))) (m_faultWhat (mu_state τ (vp_updL (m_state τ) (9 : Int32).toNatClampNeg (m_state τ (2 : Int32).toNatClampNeg)))).toInt64 (m_state (mu_state τ (vp_updL (m_state τ) (9 : Int32).toNatClampNeg (m_state τ (2 : Int32).toNatClampNeg))) (2 : Int32).toNatClampNeg)) H locs 129 ls (Option.some.inj hf) hP hD hS dX12_oneStep_129
  have J_c26 : ∀ (τ : MS) (H : Heap) (locs : List Loc) (ls : Array Slot), F_X12_oneStep_c26 τ = some res → va_P z.1 vwCl (mW z r τ) H → va_D A (mW z r τ) → va_S A s.heap H locs → lv_has ls 1 [(0, .ref (r 0))] → W p l e { frames := 7, cells := 0, slots := 0, locals := 190 } s m ([.ref (r 0)] : List Value).toArray below meth c H locs 0 0 Q (F0 m 26 ls []) := by
    intro τ H locs ls hf hP hD hS hl
    unfold F_X12_oneStep_c26 at hf
    refine lv_aload_n hx hb dX12_oneStep_26 rfl (lv_at hl 0 rfl) ?_
    refine fg_X12_state S hK hP tf_X12_22 dX12_oneStep_27 ?_
    refine lv_iconst (v := 2) hx hb dX12_oneStep_30 (by decide) ?_
    refine al_m_state S hK hP (show vp_in (2 : Int32) 11 by unfold vp_in; decide) dX12_oneStep_31 ?_
    refine lv_ldc2 (v := 3) hx hb hown (hts _ tk_X12_88) dX12_oneStep_32 ?_
    refine lv_land hx hb dX12_oneStep_35 ?_
    refine lv_lconst (v := 0) hx hb dX12_oneStep_36 (by decide) ?_
    refine gl_eq (tgt := 68) hx hb dX12_oneStep_37 dX12_oneStep_38 (by decide) (fun c_37 => ?_) (fun c_37 => ?_)
    · rw [if_pos c_37] at hf
      refine lv_aload_n hx hb dX12_oneStep_68 rfl (lv_at hl 0 rfl) ?_
      refine lv_aload_n hx hb dX12_oneStep_69 rfl (lv_at hl 0 rfl) ?_
      refine fg_X12_state S hK hP tf_X12_22 dX12_oneStep_70 ?_
      refine lv_iconst (v := 2) hx hb dX12_oneStep_73 (by decide) ?_
      refine al_m_state S hK hP (show vp_in (2 : Int32) 11 by unfold vp_in; decide) dX12_oneStep_74 ?_
      refine lv_iconst (v := 2) hx hb dX12_oneStep_75 (by decide) ?_
      refine lv_aload_n hx hb dX12_oneStep_76 rfl (lv_at hl 0 rfl) ?_
      refine fg_X12_level S hK hP tf_X12_28 dX12_oneStep_77 ?_
      obtain ⟨v1, e_v1, hf⟩ := Option.bind_eq_some_iff.mp hf
      refine k_X12_leads (a0 := (m_state τ (2 : Int32).toNatClampNeg)) (a1 := (2 : Int32)) (a2 := (m_level τ)) (res := v1) (hres := e_v1) S hK hA hP hD hS tl_X12_200 ⟨Nat.le_of_ble_eq_true rfl, Nat.le_of_ble_eq_true rfl⟩ hl.1 (Nat.le_of_ble_eq_true rfl) dX12_oneStep_80 (fun H locs hP hD hS => ?_)
      refine gz_eq (tgt := 94) hx hb dX12_oneStep_83 (by decide) (fun c_83 => ?_) (fun c_83 => ?_)
      · rw [if_neg c_83] at hf
        exact J_c94 v1.2 H locs ls hf hP hD hS (lv_sub hl [0] rfl)
      · rw [if_pos c_83] at hf
        refine lv_aload_n hx hb dX12_oneStep_86 rfl (lv_at hl 0 rfl) ?_
        refine lv_iconst (v := 4) hx hb dX12_oneStep_87 (by decide) ?_
        refine k_X12_inside (a0 := (4 : Int32)) S hK hA hP hD hS tl_X12_204 ⟨Nat.le_of_ble_eq_true rfl, Nat.le_of_ble_eq_true rfl⟩ hl.1 (Nat.le_of_ble_eq_true rfl) dX12_oneStep_88 (fun H locs hP hD hS => ?_)
        refine gz_ne (tgt := 130) hx hb dX12_oneStep_91 (by decide) (fun c_91 => ?_) (fun c_91 => ?_)
        · rw [if_pos c_91] at hf
          refine lv_aload_n hx hb dX12_oneStep_130 rfl (lv_at hl 0 rfl) ?_
          refine lv_aload_n hx hb dX12_oneStep_131 rfl (lv_at hl 0 rfl) ?_
          refine lv_aload_n hx hb dX12_oneStep_132 rfl (lv_at hl 0 rfl) ?_
          refine fg_X12_place S hK hP tf_X12_44 dX12_oneStep_133 ?_
          refine lv_l2i hx hb dX12_oneStep_136 rfl ?_
          refine lv_iconst (v := 4) hx hb dX12_oneStep_137 (by decide) ?_
          obtain ⟨v2, e_v2, hf⟩ := Option.bind_eq_some_iff.mp hf
          refine k_X12_bytes (a0 := (m_place (F_X12_inside v1.2 (4 : Int32)).2).toInt32) (a1 := (4 : Int32)) (res := v2) (hres := e_v2) S hK hP tl_X12_64 ⟨Nat.le_of_ble_eq_true rfl, Nat.le_of_ble_eq_true rfl⟩ hl.1 (Nat.le_of_ble_eq_true rfl) dX12_oneStep_138 ?_
          refine lv_l2i hx hb dX12_oneStep_141 rfl ?_
          refine fp_X12_ins (v := v2.toInt32) S hK hP hD hS tf_X12_57 dX12_oneStep_142 (fun H locs hP hD hS => ?_)
          refine lv_aload_n hx hb dX12_oneStep_145 rfl (lv_at hl 0 rfl) ?_
          refine lv_iconst (v := 0) hx hb dX12_oneStep_146 (by decide) ?_
          refine fp_X12_calls (v := false) S hK hP hD hS tf_X12_37 dX12_oneStep_147 (fun H locs hP hD hS => ?_)
          refine lv_aload_n hx hb dX12_oneStep_150 rfl (lv_at hl 0 rfl) ?_
          obtain ⟨v3, e_v3, hf⟩ := Option.bind_eq_some_iff.mp hf
          refine k_X12_does (res := v3) (hres := e_v3) S hK hA hP hD hS tl_X12_304 ⟨Nat.le_of_ble_eq_true rfl, Nat.le_of_ble_eq_true rfl⟩ hl.1 (Nat.le_of_ble_eq_true rfl) dX12_oneStep_151 (fun H locs hP hD hS => ?_)
          refine lv_aload_n hx hb dX12_oneStep_154 rfl (lv_at hl 0 rfl) ?_
          refine fg_X12_calls S hK hP tf_X12_37 dX12_oneStep_155 ?_
          refine gz_ne (tgt := 173) hx hb dX12_oneStep_158 (by decide) (fun c_158 => ?_) (fun c_158 => ?_)
          · rw [if_pos c_158] at hf
            exact hend v3 H locs 173 ls (Option.some.inj hf) hP hD hS dX12_oneStep_173
          · rw [if_neg c_158] at hf
            refine lv_aload_n hx hb dX12_oneStep_161 rfl (lv_at hl 0 rfl) ?_
            refine fg_X12_state S hK hP tf_X12_22 dX12_oneStep_162 ?_
            refine lv_iconst (v := 2) hx hb dX12_oneStep_165 (by decide) ?_
            refine lv_dup2_11 hx hb dX12_oneStep_166 rfl rfl ?_
            refine al_m_state S hK hP (show vp_in (2 : Int32) 11 by unfold vp_in; decide) dX12_oneStep_167 ?_
            refine lv_ldc2 (v := 4) hx hb hown (hts _ tk_X12_90) dX12_oneStep_168 ?_
            refine lv_ladd hx hb dX12_oneStep_171 ?_
            refine ar_m_state (x := ((m_state v3 (2 : Int32).toNatClampNeg) + (4 : Int64))) S hK hP hD hS (show vp_in (2 : Int32) 11 by unfold vp_in; decide) dX12_oneStep_172 (fun H locs hP hD hS => ?_)
            exact hend (mu_state v3 (vp_updL (m_state v3) (2 : Int32).toNatClampNeg ((m_state v3 (2 : Int32).toNatClampNeg) + (4 : Int64)))) H locs 173 ls (Option.some.inj hf) hP hD hS dX12_oneStep_173
        · rw [if_neg c_91] at hf
          exact J_c94 (F_X12_inside v1.2 (4 : Int32)).2 H locs ls hf hP hD hS (lv_sub hl [0] rfl)
    · rw [if_neg c_37] at hf
      refine lv_aload_n hx hb dX12_oneStep_41 rfl (lv_at hl 0 rfl) ?_
      refine fg_X12_state S hK hP tf_X12_22 dX12_oneStep_42 ?_
      refine lv_bipush (v := 9) hx hb dX12_oneStep_45 (by decide) ?_
      refine lv_aload_n hx hb dX12_oneStep_47 rfl (lv_at hl 0 rfl) ?_
      refine fg_X12_state S hK hP tf_X12_22 dX12_oneStep_48 ?_
      refine lv_iconst (v := 2) hx hb dX12_oneStep_51 (by decide) ?_
      refine al_m_state S hK hP (show vp_in (2 : Int32) 11 by unfold vp_in; decide) dX12_oneStep_52 ?_
      refine ar_m_state (x := (m_state τ (2 : Int32).toNatClampNeg)) S hK hP hD hS (show vp_in (9 : Int32) 11 by unfold vp_in; decide) dX12_oneStep_53 (fun H locs hP hD hS => ?_)
      refine lv_aload_n hx hb dX12_oneStep_54 rfl (lv_at hl 0 rfl) ?_
      refine lv_bipush (v := 34) hx hb dX12_oneStep_55 (by decide) ?_
      refine lv_lconst (v := 0) hx hb dX12_oneStep_57 (by decide) ?_
      refine lv_aload_n hx hb dX12_oneStep_58 rfl (lv_at hl 0 rfl) ?_
      refine fg_X12_state S hK hP tf_X12_22 dX12_oneStep_59 ?_
      refine lv_iconst (v := 2) hx hb dX12_oneStep_62 (by decide) ?_
      refine al_m_state S hK hP (show vp_in (2 : Int32) 11 by unfold vp_in; decide) dX12_oneStep_63 ?_
      refine k_X12_exception (a0 := (34 : Int32)) (a1 := (0 : Int64)) (a2 := (m_state (mu_state τ (vp_updL (m_state τ) (9 : Int32).toNatClampNeg (m_state τ (2 : Int32).toNatClampNeg))) (2 : Int32).toNatClampNeg)) S hK hA hP hD hS tl_X12_106 ⟨Nat.le_of_ble_eq_true rfl, Nat.le_of_ble_eq_true rfl⟩ hl.1 (Nat.le_of_ble_eq_true rfl) dX12_oneStep_64 (fun H locs hP hD hS => ?_)
      exact hend (F_X12_exception (mu_state τ (vp_updL (m_state τ) (9 : Int32).toNatClampNeg (m_state τ (2 : Int32).toNatClampNeg))) (34 : Int32) (0 : Int64) (m_state (mu_state τ (vp_updL (m_state τ) (9 : Int32).toNatClampNeg (m_state τ (2 : Int32).toNatClampNeg))) (2 : Int32).toNatClampNeg)) H locs 67 ls (Option.some.inj hf) hP hD hS dX12_oneStep_67
  unfold F_X12_oneStep at hf
  refine lv_aload_n hx hb dX12_oneStep_0 rfl (lv_at hl 0 rfl) ?_
  refine fg_X12_asked S hK hP tf_X12_60 dX12_oneStep_1 ?_
  refine gz_eq (tgt := 26) hx hb dX12_oneStep_4 (by decide) (fun c_4 => ?_) (fun c_4 => ?_)
  · rw [if_neg c_4] at hf
    exact J_c26 σ H locs ls hf hP hD hS (lv_sub hl [0] rfl)
  · rw [if_pos c_4] at hf
    refine lv_aload_n hx hb dX12_oneStep_7 rfl (lv_at hl 0 rfl) ?_
    refine fg_X12_masked S hK hP tf_X12_34 dX12_oneStep_8 ?_
    refine lv_if_ne (tgt := 26) hx hb dX12_oneStep_11 (by decide) (fun c_11 => ?_) (fun c_11 => ?_)
    · rw [if_neg c_11] at hf
      exact J_c26 σ H locs ls hf hP hD hS (lv_sub hl [0] rfl)
    · rw [if_pos c_11] at hf
      refine lv_aload_n hx hb dX12_oneStep_14 rfl (lv_at hl 0 rfl) ?_
      refine lv_aload_n hx hb dX12_oneStep_15 rfl (lv_at hl 0 rfl) ?_
      refine fg_X12_state S hK hP tf_X12_22 dX12_oneStep_16 ?_
      refine lv_iconst (v := 2) hx hb dX12_oneStep_19 (by decide) ?_
      refine al_m_state S hK hP (show vp_in (2 : Int32) 11 by unfold vp_in; decide) dX12_oneStep_20 ?_
      refine lv_iconst (v := 1) hx hb dX12_oneStep_21 (by decide) ?_
      refine k_X12_enters (a0 := (m_state σ (2 : Int32).toNatClampNeg)) (a1 := true) S hK hA hP hD hS tl_X12_102 ⟨Nat.le_of_ble_eq_true rfl, Nat.le_of_ble_eq_true rfl⟩ hl.1 (Nat.le_of_ble_eq_true rfl) dX12_oneStep_22 (fun H locs hP hD hS => ?_)
      exact hend (F_X12_enters σ (m_state σ (2 : Int32).toNatClampNeg) true) H locs 25 ls (Option.some.inj hf) hP hD hS dX12_oneStep_25
theorem k_X12_oneStep {p : Program} {l : Launch} {e : Env} {R : Room} {s : State} {m : MethodId} {args : Array Value} {below : List Frame} {meth : Method} {c : Code} {H : Heap} {locs : List Loc} {Q : State → Prop} {cc : ByteArray} {pc : Nat} {ls : Array Slot} {rest : List Value} {own : String} {index nL : Nat} {A : Nat → Prop} {z : Cx} {r : Nat → Nat} {σ : MS} {res : MS} (hres : F_X12_oneStep σ = some res) (S : CallFix p m c cc nL s args tbG own) (hK : va_K z.1 vwCl (cxT z) s) (hA : ∀ q, s.heap.size ≤ q → A q) (hP : va_P z.1 vwCl (mW z r σ) H) (hD : va_D A (mW z r σ)) (hS : va_S A s.heap H locs) (hl : Cond.methodLink own index yX12_oneStep ∈ tbG) (hR : 7 + 1 ≤ R.frames ∧ 8 + (1 + 11) + 190 ≤ R.locals) (hsz : ls.size = nL) (hcat : (rest.map fun v => v.category).sum ≤ 8) (hdg : decode cc pc = .ok (.invokevirtual index, 3)) (kk : ∀ (H : Heap) (locs : List Loc), va_P z.1 vwCl (mW z r res) H → va_D A (mW z r res) → va_S A s.heap H locs → W p l e R s m args below meth c H locs 0 0 Q (F0 m (pc + 3) ls (rest))) : W p l e R s m args below meth c H locs 0 0 Q (F0 m pc ls (.ref (r 0) :: rest)) :=
  km (As := []) (ov := none) (w' := mW z r res) (q0 := 0) (ci := 11) S hK hA hP hD hS (c_X12_oneStep l z r σ H.size _ hres) ⟨tb_cB 0 S.2.2.2.2 tc_X12_oneStep ti_X12 hl rfl rfl (by decide +kernel) hR, S.2.2.2.2 _ tm_X12_oneStep, S.2.2.2.2 _ te_X12_oneStep⟩ rfl rfl rfl rfl hsz rfl hcat hdg kk

theorem dX12_set_0 : decode cX12_set 0 = .ok (.aload_n 0, 1) := by decide +kernel
theorem dX12_set_1 : decode cX12_set 1 = .ok (.iconst 0, 1) := by decide +kernel
theorem dX12_set_2 : decode cX12_set 2 = .ok (.putfield 7, 3) := by decide +kernel
theorem dX12_set_5 : decode cX12_set 5 = .ok (.iload_n 1, 1) := by decide +kernel
theorem dX12_set_6 : decode cX12_set 6 = .ok (.ifCond .lt 9, 3) := by decide +kernel
theorem dX12_set_9 : decode cX12_set 9 = .ok (.iload_n 1, 1) := by decide +kernel
theorem dX12_set_10 : decode cX12_set 10 = .ok (.bipush 45, 2) := by decide +kernel
theorem dX12_set_12 : decode cX12_set 12 = .ok (.if_icmp .le 5, 3) := by decide +kernel
theorem dX12_set_15 : decode cX12_set 15 = .ok (.iconst 0, 1) := by decide +kernel
theorem dX12_set_16 : decode cX12_set 16 = .ok (.ireturn, 1) := by decide +kernel
theorem dX12_set_17 : decode cX12_set 17 = .ok (.iload_n 2, 1) := by decide +kernel
theorem dX12_set_18 : decode cX12_set 18 = .ok (.i2l, 1) := by decide +kernel
theorem dX12_set_19 : decode cX12_set 19 = .ok (.bipush 32, 2) := by decide +kernel
theorem dX12_set_21 : decode cX12_set 21 = .ok (.lshl, 1) := by decide +kernel
theorem dX12_set_22 : decode cX12_set 22 = .ok (.iload_n 3, 1) := by decide +kernel
theorem dX12_set_23 : decode cX12_set 23 = .ok (.i2l, 1) := by decide +kernel
theorem dX12_set_24 : decode cX12_set 24 = .ok (.ldc2_w 116, 3) := by decide +kernel
theorem dX12_set_27 : decode cX12_set 27 = .ok (.land, 1) := by decide +kernel
theorem dX12_set_28 : decode cX12_set 28 = .ok (.lor, 1) := by decide +kernel
theorem dX12_set_29 : decode cX12_set 29 = .ok (.lstore 4, 2) := by decide +kernel
theorem dX12_set_31 : decode cX12_set 31 = .ok (.iload_n 1, 1) := by decide +kernel
theorem dX12_set_32 : decode cX12_set 32 = .ok (.bipush 31, 2) := by decide +kernel
theorem dX12_set_34 : decode cX12_set 34 = .ok (.if_icmp .ge 14, 3) := by decide +kernel
theorem dX12_set_37 : decode cX12_set 37 = .ok (.aload_n 0, 1) := by decide +kernel
theorem dX12_set_38 : decode cX12_set 38 = .ok (.getfield 18, 3) := by decide +kernel
theorem dX12_set_41 : decode cX12_set 41 = .ok (.iload_n 1, 1) := by decide +kernel
theorem dX12_set_42 : decode cX12_set 42 = .ok (.lload 4, 2) := by decide +kernel
theorem dX12_set_44 : decode cX12_set 44 = .ok (.lastore, 1) := by decide +kernel
theorem dX12_set_45 : decode cX12_set 45 = .ok (.goto 79, 3) := by decide +kernel
theorem dX12_set_48 : decode cX12_set 48 = .ok (.iload_n 1, 1) := by decide +kernel
theorem dX12_set_49 : decode cX12_set 49 = .ok (.bipush 42, 2) := by decide +kernel
theorem dX12_set_51 : decode cX12_set 51 = .ok (.if_icmp .ge 17, 3) := by decide +kernel
theorem dX12_set_54 : decode cX12_set 54 = .ok (.aload_n 0, 1) := by decide +kernel
theorem dX12_set_55 : decode cX12_set 55 = .ok (.getfield 22, 3) := by decide +kernel
theorem dX12_set_58 : decode cX12_set 58 = .ok (.iload_n 1, 1) := by decide +kernel
theorem dX12_set_59 : decode cX12_set 59 = .ok (.bipush 31, 2) := by decide +kernel
theorem dX12_set_61 : decode cX12_set 61 = .ok (.isub, 1) := by decide +kernel
theorem dX12_set_62 : decode cX12_set 62 = .ok (.lload 4, 2) := by decide +kernel
theorem dX12_set_64 : decode cX12_set 64 = .ok (.lastore, 1) := by decide +kernel
theorem dX12_set_65 : decode cX12_set 65 = .ok (.goto 59, 3) := by decide +kernel
theorem dX12_set_68 : decode cX12_set 68 = .ok (.iload_n 1, 1) := by decide +kernel
theorem dX12_set_69 : decode cX12_set 69 = .ok (.bipush 42, 2) := by decide +kernel
theorem dX12_set_71 : decode cX12_set 71 = .ok (.if_icmp .ne 14, 3) := by decide +kernel
theorem dX12_set_74 : decode cX12_set 74 = .ok (.aload_n 0, 1) := by decide +kernel
theorem dX12_set_75 : decode cX12_set 75 = .ok (.iload_n 3, 1) := by decide +kernel
theorem dX12_set_76 : decode cX12_set 76 = .ok (.bipush 15, 2) := by decide +kernel
theorem dX12_set_78 : decode cX12_set 78 = .ok (.iand, 1) := by decide +kernel
theorem dX12_set_79 : decode cX12_set 79 = .ok (.putfield 25, 3) := by decide +kernel
theorem dX12_set_82 : decode cX12_set 82 = .ok (.goto 42, 3) := by decide +kernel
theorem dX12_set_85 : decode cX12_set 85 = .ok (.iload_n 1, 1) := by decide +kernel
theorem dX12_set_86 : decode cX12_set 86 = .ok (.bipush 43, 2) := by decide +kernel
theorem dX12_set_88 : decode cX12_set 88 = .ok (.if_icmp .ne 13, 3) := by decide +kernel
theorem dX12_set_91 : decode cX12_set 91 = .ok (.aload_n 0, 1) := by decide +kernel
theorem dX12_set_92 : decode cX12_set 92 = .ok (.iload_n 3, 1) := by decide +kernel
theorem dX12_set_93 : decode cX12_set 93 = .ok (.iconst 1, 1) := by decide +kernel
theorem dX12_set_94 : decode cX12_set 94 = .ok (.iand, 1) := by decide +kernel
theorem dX12_set_95 : decode cX12_set 95 = .ok (.putfield 28, 3) := by decide +kernel
theorem dX12_set_98 : decode cX12_set 98 = .ok (.goto 26, 3) := by decide +kernel
theorem dX12_set_101 : decode cX12_set 101 = .ok (.iload_n 1, 1) := by decide +kernel
theorem dX12_set_102 : decode cX12_set 102 = .ok (.bipush 44, 2) := by decide +kernel
theorem dX12_set_104 : decode cX12_set 104 = .ok (.if_icmp .ne 13, 3) := by decide +kernel
theorem dX12_set_107 : decode cX12_set 107 = .ok (.aload_n 0, 1) := by decide +kernel
theorem dX12_set_108 : decode cX12_set 108 = .ok (.iload_n 3, 1) := by decide +kernel
theorem dX12_set_109 : decode cX12_set 109 = .ok (.iconst 1, 1) := by decide +kernel
theorem dX12_set_110 : decode cX12_set 110 = .ok (.iand, 1) := by decide +kernel
theorem dX12_set_111 : decode cX12_set 111 = .ok (.putfield 31, 3) := by decide +kernel
theorem dX12_set_114 : decode cX12_set 114 = .ok (.goto 10, 3) := by decide +kernel
theorem dX12_set_117 : decode cX12_set 117 = .ok (.aload_n 0, 1) := by decide +kernel
theorem dX12_set_118 : decode cX12_set 118 = .ok (.iload_n 3, 1) := by decide +kernel
theorem dX12_set_119 : decode cX12_set 119 = .ok (.iconst 1, 1) := by decide +kernel
theorem dX12_set_120 : decode cX12_set 120 = .ok (.iand, 1) := by decide +kernel
theorem dX12_set_121 : decode cX12_set 121 = .ok (.putfield 34, 3) := by decide +kernel
theorem dX12_set_124 : decode cX12_set 124 = .ok (.iconst 1, 1) := by decide +kernel
theorem dX12_set_125 : decode cX12_set 125 = .ok (.ireturn, 1) := by decide +kernel
def F_X12_set_c31 (τ : MS) (a0 : Int32) (a1 : Int32) (a2 : Int32) (w4 : Int64) : Option (Bool × MS) := (if (31 : Int32) ≤ a0 then (if (42 : Int32) ≤ a0 then (if a0 = (42 : Int32) then some ((true, (mu_flags τ (a2 &&& (15 : Int32))))) else (if a0 = (43 : Int32) then some ((true, (mu_level τ (a2 &&& (1 : Int32))))) else (if a0 = (44 : Int32) then some ((true, (mu_select τ (a2 &&& (1 : Int32))))) else some ((true, (mu_masked τ (a2 &&& (1 : Int32)))))))) else (if ((a0 - (31 : Int32)) < 0 ∨ 11 ≤ (a0 - (31 : Int32)).toNatClampNeg) then none else some ((true, (mu_state τ (vp_updL (m_state τ) (a0 - (31 : Int32)).toNatClampNeg w4)))))) else (if (a0 < 0 ∨ 32 ≤ a0.toNatClampNeg) then none else some ((true, (mu_x τ (vp_updL (m_x τ) a0.toNatClampNeg w4))))))
def F_X12_set (σ : MS) (a0 : Int32) (a1 : Int32) (a2 : Int32) : Option (Bool × MS) := (if a0 < 0 then some ((false, (mu_thrownCode σ (0 : Int32)))) else (if a0 ≤ (45 : Int32) then (F_X12_set_c31 (mu_thrownCode σ (0 : Int32)) a0 a1 a2 ((j_lshl a1.toInt64 (32 : Int32)) ||| (a2.toInt64 &&& (4294967295 : Int64)))) else some ((false, (mu_thrownCode σ (0 : Int32))))))
set_option maxHeartbeats 4000000 in
set_option maxRecDepth 100000 in
theorem c_X12_set (l : Launch) (z : Cx) (r : Nat → Nat) (σ : MS) (a0 : Int32) (a1 : Int32) (a2 : Int32) (sz : Nat) (res : Bool × MS) (hf : F_X12_set σ a0 a1 a2 = some res) : Met l yX12_set (wsC yX12_set cX12_set 6 (some .boolean)) { frames := 0, cells := 0, slots := 0, locals := 0 } (mPc z (mW z r σ) sz [.ref (r 0), .int a0, .int a1, .int a2]) (gM z (va_A (mW z r σ) sz) (some (.int (zB res.1))) (mW z r res.2)) 0 0 (va_A (mW z r σ) sz) := by
  refine mk_m_z (own := RX12) (wf := mW z r) (by decide) rfl sz _ (Nat.le_of_ble_eq_true rfl) (fun p e s m below meth c A H locs Q ls S hK hA hP hD hS hl hend => ?_)
  have hx := S.1
  have hb := S.2.1
  have hown := S.2.2.2.1
  have hts := S.2.2.2.2
  have hl : lv_has ls 6 [(0, .ref (r 0)), (1, .int a0), (2, .int a1), (3, .int a2)] := hl
  have J_c31 : ∀ (τ : MS) (w4 : Int64) (H : Heap) (locs : List Loc) (ls : Array Slot), F_X12_set_c31 τ a0 a1 a2 w4 = some res → va_P z.1 vwCl (mW z r τ) H → va_D A (mW z r τ) → va_S A s.heap H locs → lv_has ls 6 [(0, .ref (r 0)), (1, .int a0), (3, .int a2), (4, .long w4)] → W p l e { frames := 0, cells := 0, slots := 0, locals := 0 } s m ([.ref (r 0), .int a0, .int a1, .int a2] : List Value).toArray below meth c H locs 0 0 Q (F0 m 31 ls []) := by
    intro τ w4 H locs ls hf hP hD hS hl
    unfold F_X12_set_c31 at hf
    refine lv_iload_n hx hb dX12_set_31 rfl (lv_at hl 1 rfl) ?_
    refine lv_bipush (v := 31) hx hb dX12_set_32 (by decide) ?_
    refine lv_icmp_ge (tgt := 48) hx hb dX12_set_34 (by decide) (fun c_34 => ?_) (fun c_34 => ?_)
    · rw [if_pos c_34] at hf
      refine lv_iload_n hx hb dX12_set_48 rfl (lv_at hl 1 rfl) ?_
      refine lv_bipush (v := 42) hx hb dX12_set_49 (by decide) ?_
      refine lv_icmp_ge (tgt := 68) hx hb dX12_set_51 (by decide) (fun c_51 => ?_) (fun c_51 => ?_)
      · rw [if_pos c_51] at hf
        refine lv_iload_n hx hb dX12_set_68 rfl (lv_at hl 1 rfl) ?_
        refine lv_bipush (v := 42) hx hb dX12_set_69 (by decide) ?_
        refine lv_icmp_ne (tgt := 85) hx hb dX12_set_71 (by decide) (fun c_71 => ?_) (fun c_71 => ?_)
        · rw [if_neg c_71] at hf
          refine lv_iload_n hx hb dX12_set_85 rfl (lv_at hl 1 rfl) ?_
          refine lv_bipush (v := 43) hx hb dX12_set_86 (by decide) ?_
          refine lv_icmp_ne (tgt := 101) hx hb dX12_set_88 (by decide) (fun c_88 => ?_) (fun c_88 => ?_)
          · rw [if_neg c_88] at hf
            refine lv_iload_n hx hb dX12_set_101 rfl (lv_at hl 1 rfl) ?_
            refine lv_bipush (v := 44) hx hb dX12_set_102 (by decide) ?_
            refine lv_icmp_ne (tgt := 117) hx hb dX12_set_104 (by decide) (fun c_104 => ?_) (fun c_104 => ?_)
            · rw [if_neg c_104] at hf
              refine lv_aload_n hx hb dX12_set_117 rfl (lv_at hl 0 rfl) ?_
              refine lv_iload_n hx hb dX12_set_118 rfl (lv_at hl 2 rfl) ?_
              refine lv_iconst (v := 1) hx hb dX12_set_119 (by decide) ?_
              refine lv_iand hx hb dX12_set_120 ?_
              refine fp_X12_masked (v := (a2 &&& (1 : Int32))) S hK hP hD hS tf_X12_34 dX12_set_121 (fun H locs hP hD hS => ?_)
              refine lv_iconst (v := 1) hx hb dX12_set_124 (by decide) ?_
              exact hend true (mu_masked τ (a2 &&& (1 : Int32))) H locs 125 ls (Option.some.inj hf) hP hD hS dX12_set_125
            · rw [if_pos c_104] at hf
              refine lv_aload_n hx hb dX12_set_107 rfl (lv_at hl 0 rfl) ?_
              refine lv_iload_n hx hb dX12_set_108 rfl (lv_at hl 2 rfl) ?_
              refine lv_iconst (v := 1) hx hb dX12_set_109 (by decide) ?_
              refine lv_iand hx hb dX12_set_110 ?_
              refine fp_X12_select (v := (a2 &&& (1 : Int32))) S hK hP hD hS tf_X12_31 dX12_set_111 (fun H locs hP hD hS => ?_)
              refine lv_goto (tgt := 124) hx hb dX12_set_114 (by decide) ?_
              refine lv_iconst (v := 1) hx hb dX12_set_124 (by decide) ?_
              exact hend true (mu_select τ (a2 &&& (1 : Int32))) H locs 125 ls (Option.some.inj hf) hP hD hS dX12_set_125
          · rw [if_pos c_88] at hf
            refine lv_aload_n hx hb dX12_set_91 rfl (lv_at hl 0 rfl) ?_
            refine lv_iload_n hx hb dX12_set_92 rfl (lv_at hl 2 rfl) ?_
            refine lv_iconst (v := 1) hx hb dX12_set_93 (by decide) ?_
            refine lv_iand hx hb dX12_set_94 ?_
            refine fp_X12_level (v := (a2 &&& (1 : Int32))) S hK hP hD hS tf_X12_28 dX12_set_95 (fun H locs hP hD hS => ?_)
            refine lv_goto (tgt := 124) hx hb dX12_set_98 (by decide) ?_
            refine lv_iconst (v := 1) hx hb dX12_set_124 (by decide) ?_
            exact hend true (mu_level τ (a2 &&& (1 : Int32))) H locs 125 ls (Option.some.inj hf) hP hD hS dX12_set_125
        · rw [if_pos c_71] at hf
          refine lv_aload_n hx hb dX12_set_74 rfl (lv_at hl 0 rfl) ?_
          refine lv_iload_n hx hb dX12_set_75 rfl (lv_at hl 2 rfl) ?_
          refine lv_bipush (v := 15) hx hb dX12_set_76 (by decide) ?_
          refine lv_iand hx hb dX12_set_78 ?_
          refine fp_X12_flags (v := (a2 &&& (15 : Int32))) S hK hP hD hS tf_X12_25 dX12_set_79 (fun H locs hP hD hS => ?_)
          refine lv_goto (tgt := 124) hx hb dX12_set_82 (by decide) ?_
          refine lv_iconst (v := 1) hx hb dX12_set_124 (by decide) ?_
          exact hend true (mu_flags τ (a2 &&& (15 : Int32))) H locs 125 ls (Option.some.inj hf) hP hD hS dX12_set_125
      · rw [if_neg c_51] at hf
        refine lv_aload_n hx hb dX12_set_54 rfl (lv_at hl 0 rfl) ?_
        refine fg_X12_state S hK hP tf_X12_22 dX12_set_55 ?_
        refine lv_iload_n hx hb dX12_set_58 rfl (lv_at hl 1 rfl) ?_
        refine lv_bipush (v := 31) hx hb dX12_set_59 (by decide) ?_
        refine lv_isub hx hb dX12_set_61 ?_
        refine lv_lload hx hb dX12_set_62 (lv_at hl 3 rfl) ?_
        by_cases c_64 : ((a0 - (31 : Int32)) < 0 ∨ 11 ≤ (a0 - (31 : Int32)).toNatClampNeg)
        · rw [if_pos c_64] at hf
          cases hf
        rw [if_neg c_64] at hf
        refine ar_m_state (x := w4) S hK hP hD hS c_64 dX12_set_64 (fun H locs hP hD hS => ?_)
        refine lv_goto (tgt := 124) hx hb dX12_set_65 (by decide) ?_
        refine lv_iconst (v := 1) hx hb dX12_set_124 (by decide) ?_
        exact hend true (mu_state τ (vp_updL (m_state τ) (a0 - (31 : Int32)).toNatClampNeg w4)) H locs 125 ls (Option.some.inj hf) hP hD hS dX12_set_125
    · rw [if_neg c_34] at hf
      refine lv_aload_n hx hb dX12_set_37 rfl (lv_at hl 0 rfl) ?_
      refine fg_X12_x S hK hP tf_X12_18 dX12_set_38 ?_
      refine lv_iload_n hx hb dX12_set_41 rfl (lv_at hl 1 rfl) ?_
      refine lv_lload hx hb dX12_set_42 (lv_at hl 3 rfl) ?_
      by_cases c_44 : (a0 < 0 ∨ 32 ≤ a0.toNatClampNeg)
      · rw [if_pos c_44] at hf
        cases hf
      rw [if_neg c_44] at hf
      refine ar_m_x (x := w4) S hK hP hD hS c_44 dX12_set_44 (fun H locs hP hD hS => ?_)
      refine lv_goto (tgt := 124) hx hb dX12_set_45 (by decide) ?_
      refine lv_iconst (v := 1) hx hb dX12_set_124 (by decide) ?_
      exact hend true (mu_x τ (vp_updL (m_x τ) a0.toNatClampNeg w4)) H locs 125 ls (Option.some.inj hf) hP hD hS dX12_set_125
  unfold F_X12_set at hf
  refine lv_aload_n hx hb dX12_set_0 rfl (lv_at hl 0 rfl) ?_
  refine lv_iconst (v := 0) hx hb dX12_set_1 (by decide) ?_
  refine fp_X12_thrownCode (v := (0 : Int32)) S hK hP hD hS tf_X12_7 dX12_set_2 (fun H locs hP hD hS => ?_)
  refine lv_iload_n hx hb dX12_set_5 rfl (lv_at hl 1 rfl) ?_
  refine lv_if_lt (tgt := 15) hx hb dX12_set_6 (by decide) (fun c_6 => ?_) (fun c_6 => ?_)
  · rw [if_pos c_6] at hf
    refine lv_iconst (v := 0) hx hb dX12_set_15 (by decide) ?_
    exact hend false (mu_thrownCode σ (0 : Int32)) H locs 16 ls (Option.some.inj hf) hP hD hS dX12_set_16
  · rw [if_neg c_6] at hf
    refine lv_iload_n hx hb dX12_set_9 rfl (lv_at hl 1 rfl) ?_
    refine lv_bipush (v := 45) hx hb dX12_set_10 (by decide) ?_
    refine lv_icmp_le (tgt := 17) hx hb dX12_set_12 (by decide) (fun c_12 => ?_) (fun c_12 => ?_)
    · rw [if_pos c_12] at hf
      refine lv_iload_n hx hb dX12_set_17 rfl (lv_at hl 2 rfl) ?_
      refine lv_i2l hx hb dX12_set_18 rfl ?_
      refine lv_bipush (v := 32) hx hb dX12_set_19 (by decide) ?_
      refine lv_lshl (v := (j_lshl a1.toInt64 (32 : Int32))) hx hb dX12_set_21 rfl ?_
      refine lv_iload_n hx hb dX12_set_22 rfl (lv_at hl 3 rfl) ?_
      refine lv_i2l hx hb dX12_set_23 rfl ?_
      refine lv_ldc2 (v := 4294967295) hx hb hown (hts _ tk_X12_116) dX12_set_24 ?_
      refine lv_land hx hb dX12_set_27 ?_
      refine lv_lor hx hb dX12_set_28 ?_
      refine lv_lstore (lv' := [(4, .long ((j_lshl a1.toInt64 (32 : Int32)) ||| (a2.toInt64 &&& (4294967295 : Int64)))), (0, .ref (r 0)), (1, .int a0), (2, .int a1), (3, .int a2)]) hx hb dX12_set_29 hl (by decide) rfl (fun ls hl => ?_)
      exact J_c31 (mu_thrownCode σ (0 : Int32)) ((j_lshl a1.toInt64 (32 : Int32)) ||| (a2.toInt64 &&& (4294967295 : Int64))) H locs ls hf hP hD hS (lv_sub hl [1, 2, 4, 0] rfl)
    · rw [if_neg c_12] at hf
      refine lv_iconst (v := 0) hx hb dX12_set_15 (by decide) ?_
      exact hend false (mu_thrownCode σ (0 : Int32)) H locs 16 ls (Option.some.inj hf) hP hD hS dX12_set_16
theorem k_X12_set {p : Program} {l : Launch} {e : Env} {R : Room} {s : State} {m : MethodId} {args : Array Value} {below : List Frame} {meth : Method} {c : Code} {H : Heap} {locs : List Loc} {Q : State → Prop} {cc : ByteArray} {pc : Nat} {ls : Array Slot} {rest : List Value} {own : String} {index nL : Nat} {A : Nat → Prop} {z : Cx} {r : Nat → Nat} {σ : MS} {a0 : Int32} {a1 : Int32} {a2 : Int32} {res : Bool × MS} (hres : F_X12_set σ a0 a1 a2 = some res) (S : CallFix p m c cc nL s args tbG own) (hK : va_K z.1 vwCl (cxT z) s) (hA : ∀ q, s.heap.size ≤ q → A q) (hP : va_P z.1 vwCl (mW z r σ) H) (hD : va_D A (mW z r σ)) (hS : va_S A s.heap H locs) (hl : Cond.methodLink own index yX12_set ∈ tbG) (hR : 0 + 1 ≤ R.frames ∧ 8 + (6 + 11) + 0 ≤ R.locals) (hsz : ls.size = nL) (hcat : (rest.map fun v => v.category).sum ≤ 8) (hdg : decode cc pc = .ok (.invokevirtual index, 3)) (kk : ∀ (H : Heap) (locs : List Loc), va_P z.1 vwCl (mW z r res.2) H → va_D A (mW z r res.2) → va_S A s.heap H locs → W p l e R s m args below meth c H locs 0 0 Q (F0 m (pc + 3) ls (.int (zB res.1) :: rest))) : W p l e R s m args below meth c H locs 0 0 Q (F0 m pc ls (.int a2 :: .int a1 :: .int a0 :: .ref (r 0) :: rest)) :=
  km (As := [.int a0, .int a1, .int a2]) (ov := some (.int (zB res.1))) (w' := mW z r res.2) (q0 := 0) (ci := 11) S hK hA hP hD hS (c_X12_set l z r σ a0 a1 a2 H.size _ hres) ⟨tb_cB 3 S.2.2.2.2 tc_X12_set ti_X12 hl rfl rfl (by decide +kernel) hR, S.2.2.2.2 _ tm_X12_set, S.2.2.2.2 _ te_X12_set⟩ rfl rfl rfl rfl hsz rfl hcat hdg kk

theorem dX12_part_0 : decode cX12_part 0 = .ok (.iload_n 1, 1) := by decide +kernel
theorem dX12_part_1 : decode cX12_part 1 = .ok (.ifCond .lt 9, 3) := by decide +kernel
theorem dX12_part_4 : decode cX12_part 4 = .ok (.iload_n 1, 1) := by decide +kernel
theorem dX12_part_5 : decode cX12_part 5 = .ok (.bipush 45, 2) := by decide +kernel
theorem dX12_part_7 : decode cX12_part 7 = .ok (.if_icmp .le 5, 3) := by decide +kernel
theorem dX12_part_10 : decode cX12_part 10 = .ok (.lconst 0, 1) := by decide +kernel
theorem dX12_part_11 : decode cX12_part 11 = .ok (.lreturn, 1) := by decide +kernel
theorem dX12_part_12 : decode cX12_part 12 = .ok (.iload_n 1, 1) := by decide +kernel
theorem dX12_part_13 : decode cX12_part 13 = .ok (.bipush 31, 2) := by decide +kernel
theorem dX12_part_15 : decode cX12_part 15 = .ok (.if_icmp .ge 10, 3) := by decide +kernel
theorem dX12_part_18 : decode cX12_part 18 = .ok (.aload_n 0, 1) := by decide +kernel
theorem dX12_part_19 : decode cX12_part 19 = .ok (.getfield 18, 3) := by decide +kernel
theorem dX12_part_22 : decode cX12_part 22 = .ok (.iload_n 1, 1) := by decide +kernel
theorem dX12_part_23 : decode cX12_part 23 = .ok (.laload, 1) := by decide +kernel
theorem dX12_part_24 : decode cX12_part 24 = .ok (.lreturn, 1) := by decide +kernel
theorem dX12_part_25 : decode cX12_part 25 = .ok (.iload_n 1, 1) := by decide +kernel
theorem dX12_part_26 : decode cX12_part 26 = .ok (.bipush 42, 2) := by decide +kernel
theorem dX12_part_28 : decode cX12_part 28 = .ok (.if_icmp .ge 13, 3) := by decide +kernel
theorem dX12_part_31 : decode cX12_part 31 = .ok (.aload_n 0, 1) := by decide +kernel
theorem dX12_part_32 : decode cX12_part 32 = .ok (.getfield 22, 3) := by decide +kernel
theorem dX12_part_35 : decode cX12_part 35 = .ok (.iload_n 1, 1) := by decide +kernel
theorem dX12_part_36 : decode cX12_part 36 = .ok (.bipush 31, 2) := by decide +kernel
theorem dX12_part_38 : decode cX12_part 38 = .ok (.isub, 1) := by decide +kernel
theorem dX12_part_39 : decode cX12_part 39 = .ok (.laload, 1) := by decide +kernel
theorem dX12_part_40 : decode cX12_part 40 = .ok (.lreturn, 1) := by decide +kernel
theorem dX12_part_41 : decode cX12_part 41 = .ok (.iload_n 1, 1) := by decide +kernel
theorem dX12_part_42 : decode cX12_part 42 = .ok (.bipush 42, 2) := by decide +kernel
theorem dX12_part_44 : decode cX12_part 44 = .ok (.if_icmp .ne 9, 3) := by decide +kernel
theorem dX12_part_47 : decode cX12_part 47 = .ok (.aload_n 0, 1) := by decide +kernel
theorem dX12_part_48 : decode cX12_part 48 = .ok (.getfield 25, 3) := by decide +kernel
theorem dX12_part_51 : decode cX12_part 51 = .ok (.i2l, 1) := by decide +kernel
theorem dX12_part_52 : decode cX12_part 52 = .ok (.lreturn, 1) := by decide +kernel
theorem dX12_part_53 : decode cX12_part 53 = .ok (.iload_n 1, 1) := by decide +kernel
theorem dX12_part_54 : decode cX12_part 54 = .ok (.bipush 43, 2) := by decide +kernel
theorem dX12_part_56 : decode cX12_part 56 = .ok (.if_icmp .ne 9, 3) := by decide +kernel
theorem dX12_part_59 : decode cX12_part 59 = .ok (.aload_n 0, 1) := by decide +kernel
theorem dX12_part_60 : decode cX12_part 60 = .ok (.getfield 28, 3) := by decide +kernel
theorem dX12_part_63 : decode cX12_part 63 = .ok (.i2l, 1) := by decide +kernel
theorem dX12_part_64 : decode cX12_part 64 = .ok (.lreturn, 1) := by decide +kernel
theorem dX12_part_65 : decode cX12_part 65 = .ok (.iload_n 1, 1) := by decide +kernel
theorem dX12_part_66 : decode cX12_part 66 = .ok (.bipush 44, 2) := by decide +kernel
theorem dX12_part_68 : decode cX12_part 68 = .ok (.if_icmp .ne 9, 3) := by decide +kernel
theorem dX12_part_71 : decode cX12_part 71 = .ok (.aload_n 0, 1) := by decide +kernel
theorem dX12_part_72 : decode cX12_part 72 = .ok (.getfield 31, 3) := by decide +kernel
theorem dX12_part_75 : decode cX12_part 75 = .ok (.i2l, 1) := by decide +kernel
theorem dX12_part_76 : decode cX12_part 76 = .ok (.lreturn, 1) := by decide +kernel
theorem dX12_part_77 : decode cX12_part 77 = .ok (.aload_n 0, 1) := by decide +kernel
theorem dX12_part_78 : decode cX12_part 78 = .ok (.getfield 34, 3) := by decide +kernel
theorem dX12_part_81 : decode cX12_part 81 = .ok (.i2l, 1) := by decide +kernel
theorem dX12_part_82 : decode cX12_part 82 = .ok (.lreturn, 1) := by decide +kernel
def F_X12_part (σ : MS) (a0 : Int32) : Option (Int64) := (if a0 < 0 then some ((0 : Int64)) else (if a0 ≤ (45 : Int32) then (if (31 : Int32) ≤ a0 then (if (42 : Int32) ≤ a0 then (if a0 = (42 : Int32) then some ((m_flags σ).toInt64) else (if a0 = (43 : Int32) then some ((m_level σ).toInt64) else (if a0 = (44 : Int32) then some ((m_select σ).toInt64) else some ((m_masked σ).toInt64)))) else (if ((a0 - (31 : Int32)) < 0 ∨ 11 ≤ (a0 - (31 : Int32)).toNatClampNeg) then none else some ((m_state σ (a0 - (31 : Int32)).toNatClampNeg)))) else (if (a0 < 0 ∨ 32 ≤ a0.toNatClampNeg) then none else some ((m_x σ a0.toNatClampNeg)))) else some ((0 : Int64))))
set_option maxHeartbeats 4000000 in
set_option maxRecDepth 100000 in
theorem c_X12_part (l : Launch) (z : Cx) (r : Nat → Nat) (σ : MS) (a0 : Int32) (res : Int64) (hf : F_X12_part σ a0 = some res) : Met l yX12_part (wsC yX12_part cX12_part 2 (some .long)) { frames := 0, cells := 0, slots := 0, locals := 0 } (rPc z (mW z r σ) [.ref (r 0), .int a0]) (gS (some (.long res))) 0 0 (fun _ => False) := by
  refine mk_r_l (own := RX12) (by decide) rfl _ (Nat.le_of_ble_eq_true rfl) (fun p e s m below meth c H locs Q ls S hK hP hl hend => ?_)
  have hx := S.1
  have hb := S.2.1
  have hown := S.2.2.2.1
  have hts := S.2.2.2.2
  have hl : lv_has ls 2 [(0, .ref (r 0)), (1, .int a0)] := hl
  unfold F_X12_part at hf
  refine lv_iload_n hx hb dX12_part_0 rfl (lv_at hl 1 rfl) ?_
  refine lv_if_lt (tgt := 10) hx hb dX12_part_1 (by decide) (fun c_1 => ?_) (fun c_1 => ?_)
  · rw [if_pos c_1] at hf
    refine lv_lconst (v := 0) hx hb dX12_part_10 (by decide) ?_
    exact hend (0 : Int64) 11 ls (Option.some.inj hf) dX12_part_11
  · rw [if_neg c_1] at hf
    refine lv_iload_n hx hb dX12_part_4 rfl (lv_at hl 1 rfl) ?_
    refine lv_bipush (v := 45) hx hb dX12_part_5 (by decide) ?_
    refine lv_icmp_le (tgt := 12) hx hb dX12_part_7 (by decide) (fun c_7 => ?_) (fun c_7 => ?_)
    · rw [if_pos c_7] at hf
      refine lv_iload_n hx hb dX12_part_12 rfl (lv_at hl 1 rfl) ?_
      refine lv_bipush (v := 31) hx hb dX12_part_13 (by decide) ?_
      refine lv_icmp_ge (tgt := 25) hx hb dX12_part_15 (by decide) (fun c_15 => ?_) (fun c_15 => ?_)
      · rw [if_pos c_15] at hf
        refine lv_iload_n hx hb dX12_part_25 rfl (lv_at hl 1 rfl) ?_
        refine lv_bipush (v := 42) hx hb dX12_part_26 (by decide) ?_
        refine lv_icmp_ge (tgt := 41) hx hb dX12_part_28 (by decide) (fun c_28 => ?_) (fun c_28 => ?_)
        · rw [if_pos c_28] at hf
          refine lv_iload_n hx hb dX12_part_41 rfl (lv_at hl 1 rfl) ?_
          refine lv_bipush (v := 42) hx hb dX12_part_42 (by decide) ?_
          refine lv_icmp_ne (tgt := 53) hx hb dX12_part_44 (by decide) (fun c_44 => ?_) (fun c_44 => ?_)
          · rw [if_neg c_44] at hf
            refine lv_iload_n hx hb dX12_part_53 rfl (lv_at hl 1 rfl) ?_
            refine lv_bipush (v := 43) hx hb dX12_part_54 (by decide) ?_
            refine lv_icmp_ne (tgt := 65) hx hb dX12_part_56 (by decide) (fun c_56 => ?_) (fun c_56 => ?_)
            · rw [if_neg c_56] at hf
              refine lv_iload_n hx hb dX12_part_65 rfl (lv_at hl 1 rfl) ?_
              refine lv_bipush (v := 44) hx hb dX12_part_66 (by decide) ?_
              refine lv_icmp_ne (tgt := 77) hx hb dX12_part_68 (by decide) (fun c_68 => ?_) (fun c_68 => ?_)
              · rw [if_neg c_68] at hf
                refine lv_aload_n hx hb dX12_part_77 rfl (lv_at hl 0 rfl) ?_
                refine fg_X12_masked S hK hP tf_X12_34 dX12_part_78 ?_
                refine lv_i2l hx hb dX12_part_81 rfl ?_
                exact hend (m_masked σ).toInt64 82 ls (Option.some.inj hf) dX12_part_82
              · rw [if_pos c_68] at hf
                refine lv_aload_n hx hb dX12_part_71 rfl (lv_at hl 0 rfl) ?_
                refine fg_X12_select S hK hP tf_X12_31 dX12_part_72 ?_
                refine lv_i2l hx hb dX12_part_75 rfl ?_
                exact hend (m_select σ).toInt64 76 ls (Option.some.inj hf) dX12_part_76
            · rw [if_pos c_56] at hf
              refine lv_aload_n hx hb dX12_part_59 rfl (lv_at hl 0 rfl) ?_
              refine fg_X12_level S hK hP tf_X12_28 dX12_part_60 ?_
              refine lv_i2l hx hb dX12_part_63 rfl ?_
              exact hend (m_level σ).toInt64 64 ls (Option.some.inj hf) dX12_part_64
          · rw [if_pos c_44] at hf
            refine lv_aload_n hx hb dX12_part_47 rfl (lv_at hl 0 rfl) ?_
            refine fg_X12_flags S hK hP tf_X12_25 dX12_part_48 ?_
            refine lv_i2l hx hb dX12_part_51 rfl ?_
            exact hend (m_flags σ).toInt64 52 ls (Option.some.inj hf) dX12_part_52
        · rw [if_neg c_28] at hf
          refine lv_aload_n hx hb dX12_part_31 rfl (lv_at hl 0 rfl) ?_
          refine fg_X12_state S hK hP tf_X12_22 dX12_part_32 ?_
          refine lv_iload_n hx hb dX12_part_35 rfl (lv_at hl 1 rfl) ?_
          refine lv_bipush (v := 31) hx hb dX12_part_36 (by decide) ?_
          refine lv_isub hx hb dX12_part_38 ?_
          by_cases c_39 : ((a0 - (31 : Int32)) < 0 ∨ 11 ≤ (a0 - (31 : Int32)).toNatClampNeg)
          · rw [if_pos c_39] at hf
            cases hf
          rw [if_neg c_39] at hf
          refine al_m_state S hK hP c_39 dX12_part_39 ?_
          exact hend (m_state σ (a0 - (31 : Int32)).toNatClampNeg) 40 ls (Option.some.inj hf) dX12_part_40
      · rw [if_neg c_15] at hf
        refine lv_aload_n hx hb dX12_part_18 rfl (lv_at hl 0 rfl) ?_
        refine fg_X12_x S hK hP tf_X12_18 dX12_part_19 ?_
        refine lv_iload_n hx hb dX12_part_22 rfl (lv_at hl 1 rfl) ?_
        by_cases c_23 : (a0 < 0 ∨ 32 ≤ a0.toNatClampNeg)
        · rw [if_pos c_23] at hf
          cases hf
        rw [if_neg c_23] at hf
        refine al_m_x S hK hP c_23 dX12_part_23 ?_
        exact hend (m_x σ a0.toNatClampNeg) 24 ls (Option.some.inj hf) dX12_part_24
    · rw [if_neg c_7] at hf
      refine lv_lconst (v := 0) hx hb dX12_part_10 (by decide) ?_
      exact hend (0 : Int64) 11 ls (Option.some.inj hf) dX12_part_11
theorem k_X12_part {p : Program} {l : Launch} {e : Env} {R : Room} {s : State} {m : MethodId} {args : Array Value} {below : List Frame} {meth : Method} {c : Code} {H : Heap} {locs : List Loc} {Q : State → Prop} {cc : ByteArray} {pc : Nat} {ls : Array Slot} {rest : List Value} {own : String} {index nL : Nat} {z : Cx} {r : Nat → Nat} {σ : MS} {a0 : Int32} {res : Int64} (hres : F_X12_part σ a0 = some res) (S : CallFix p m c cc nL s args tbG own) (hK : va_K z.1 vwCl (cxT z) s) (hP : va_P z.1 vwCl (mW z r σ) H) (hl : Cond.methodLink own index yX12_part ∈ tbG) (hR : 0 + 1 ≤ R.frames ∧ 8 + (2 + 11) + 0 ≤ R.locals) (hsz : ls.size = nL) (hcat : (rest.map fun v => v.category).sum ≤ 8) (hdg : decode cc pc = .ok (.invokevirtual index, 3)) (kk : W p l e R s m args below meth c H locs 0 0 Q (F0 m (pc + 3) ls (.long res :: rest))) : W p l e R s m args below meth c H locs 0 0 Q (F0 m pc ls (.int a0 :: .ref (r 0) :: rest)) :=
  kr (As := [.int a0]) (ov := some (.long res)) (q0 := 0) (ci := 11) S hK hP (c_X12_part l z r σ a0 _ hres) ⟨tb_cB 1 S.2.2.2.2 tc_X12_part ti_X12 hl rfl rfl (by decide +kernel) hR, S.2.2.2.2 _ tm_X12_part, S.2.2.2.2 _ te_X12_part⟩ rfl rfl rfl rfl hsz rfl hcat hdg kk

theorem dX12_low_0 : decode cX12_low 0 = .ok (.aload_n 0, 1) := by decide +kernel
theorem dX12_low_1 : decode cX12_low 1 = .ok (.iconst 0, 1) := by decide +kernel
theorem dX12_low_2 : decode cX12_low 2 = .ok (.putfield 7, 3) := by decide +kernel
theorem dX12_low_5 : decode cX12_low 5 = .ok (.aload_n 0, 1) := by decide +kernel
theorem dX12_low_6 : decode cX12_low 6 = .ok (.iload_n 1, 1) := by decide +kernel
theorem dX12_low_7 : decode cX12_low 7 = .ok (.invokevirtual 307, 3) := by decide +kernel
theorem dX12_low_10 : decode cX12_low 10 = .ok (.l2i, 1) := by decide +kernel
theorem dX12_low_11 : decode cX12_low 11 = .ok (.ireturn, 1) := by decide +kernel
def F_X12_low (σ : MS) (a0 : Int32) : Option (Int32 × MS) := ((F_X12_part (mu_thrownCode σ (0 : Int32)) a0).bind fun v1 => some ((v1.toInt32, (mu_thrownCode σ (0 : Int32)))))
set_option maxHeartbeats 4000000 in
set_option maxRecDepth 100000 in
theorem c_X12_low (l : Launch) (z : Cx) (r : Nat → Nat) (σ : MS) (a0 : Int32) (sz : Nat) (res : Int32 × MS) (hf : F_X12_low σ a0 = some res) : Met l yX12_low (wsC yX12_low cX12_low 2 (some .int)) { frames := 1, cells := 0, slots := 0, locals := 21 } (mPc z (mW z r σ) sz [.ref (r 0), .int a0]) (gM z (va_A (mW z r σ) sz) (some (.int res.1)) (mW z r res.2)) 0 0 (va_A (mW z r σ) sz) := by
  refine mk_m_i (own := RX12) (wf := mW z r) (by decide) rfl sz _ (Nat.le_of_ble_eq_true rfl) (fun p e s m below meth c A H locs Q ls S hK hA hP hD hS hl hend => ?_)
  have hx := S.1
  have hb := S.2.1
  have hown := S.2.2.2.1
  have hts := S.2.2.2.2
  have hl : lv_has ls 2 [(0, .ref (r 0)), (1, .int a0)] := hl
  unfold F_X12_low at hf
  refine lv_aload_n hx hb dX12_low_0 rfl (lv_at hl 0 rfl) ?_
  refine lv_iconst (v := 0) hx hb dX12_low_1 (by decide) ?_
  refine fp_X12_thrownCode (v := (0 : Int32)) S hK hP hD hS tf_X12_7 dX12_low_2 (fun H locs hP hD hS => ?_)
  refine lv_aload_n hx hb dX12_low_5 rfl (lv_at hl 0 rfl) ?_
  refine lv_iload_n hx hb dX12_low_6 rfl (lv_at hl 1 rfl) ?_
  obtain ⟨v1, e_v1, hf⟩ := Option.bind_eq_some_iff.mp hf
  refine k_X12_part (a0 := a0) (res := v1) (hres := e_v1) S hK hP tl_X12_307 ⟨Nat.le_of_ble_eq_true rfl, Nat.le_of_ble_eq_true rfl⟩ hl.1 (Nat.le_of_ble_eq_true rfl) dX12_low_7 ?_
  refine lv_l2i hx hb dX12_low_10 rfl ?_
  exact hend v1.toInt32 (mu_thrownCode σ (0 : Int32)) H locs 11 ls (Option.some.inj hf) hP hD hS dX12_low_11
theorem k_X12_low {p : Program} {l : Launch} {e : Env} {R : Room} {s : State} {m : MethodId} {args : Array Value} {below : List Frame} {meth : Method} {c : Code} {H : Heap} {locs : List Loc} {Q : State → Prop} {cc : ByteArray} {pc : Nat} {ls : Array Slot} {rest : List Value} {own : String} {index nL : Nat} {A : Nat → Prop} {z : Cx} {r : Nat → Nat} {σ : MS} {a0 : Int32} {res : Int32 × MS} (hres : F_X12_low σ a0 = some res) (S : CallFix p m c cc nL s args tbG own) (hK : va_K z.1 vwCl (cxT z) s) (hA : ∀ q, s.heap.size ≤ q → A q) (hP : va_P z.1 vwCl (mW z r σ) H) (hD : va_D A (mW z r σ)) (hS : va_S A s.heap H locs) (hl : Cond.methodLink own index yX12_low ∈ tbG) (hR : 1 + 1 ≤ R.frames ∧ 8 + (2 + 11) + 21 ≤ R.locals) (hsz : ls.size = nL) (hcat : (rest.map fun v => v.category).sum ≤ 8) (hdg : decode cc pc = .ok (.invokevirtual index, 3)) (kk : ∀ (H : Heap) (locs : List Loc), va_P z.1 vwCl (mW z r res.2) H → va_D A (mW z r res.2) → va_S A s.heap H locs → W p l e R s m args below meth c H locs 0 0 Q (F0 m (pc + 3) ls (.int res.1 :: rest))) : W p l e R s m args below meth c H locs 0 0 Q (F0 m pc ls (.int a0 :: .ref (r 0) :: rest)) :=
  km (As := [.int a0]) (ov := some (.int res.1)) (w' := mW z r res.2) (q0 := 0) (ci := 11) S hK hA hP hD hS (c_X12_low l z r σ a0 H.size _ hres) ⟨tb_cB 1 S.2.2.2.2 tc_X12_low ti_X12 hl rfl rfl (by decide +kernel) hR, S.2.2.2.2 _ tm_X12_low, S.2.2.2.2 _ te_X12_low⟩ rfl rfl rfl rfl hsz rfl hcat hdg kk

theorem dX12_high_0 : decode cX12_high 0 = .ok (.aload_n 0, 1) := by decide +kernel
theorem dX12_high_1 : decode cX12_high 1 = .ok (.iconst 0, 1) := by decide +kernel
theorem dX12_high_2 : decode cX12_high 2 = .ok (.putfield 7, 3) := by decide +kernel
theorem dX12_high_5 : decode cX12_high 5 = .ok (.aload_n 0, 1) := by decide +kernel
theorem dX12_high_6 : decode cX12_high 6 = .ok (.iload_n 1, 1) := by decide +kernel
theorem dX12_high_7 : decode cX12_high 7 = .ok (.invokevirtual 307, 3) := by decide +kernel
theorem dX12_high_10 : decode cX12_high 10 = .ok (.bipush 32, 2) := by decide +kernel
theorem dX12_high_12 : decode cX12_high 12 = .ok (.lshr, 1) := by decide +kernel
theorem dX12_high_13 : decode cX12_high 13 = .ok (.l2i, 1) := by decide +kernel
theorem dX12_high_14 : decode cX12_high 14 = .ok (.ireturn, 1) := by decide +kernel
def F_X12_high (σ : MS) (a0 : Int32) : Option (Int32 × MS) := ((F_X12_part (mu_thrownCode σ (0 : Int32)) a0).bind fun v1 => some (((j_lshr v1 (32 : Int32)).toInt32, (mu_thrownCode σ (0 : Int32)))))
set_option maxHeartbeats 4000000 in
set_option maxRecDepth 100000 in
theorem c_X12_high (l : Launch) (z : Cx) (r : Nat → Nat) (σ : MS) (a0 : Int32) (sz : Nat) (res : Int32 × MS) (hf : F_X12_high σ a0 = some res) : Met l yX12_high (wsC yX12_high cX12_high 2 (some .int)) { frames := 1, cells := 0, slots := 0, locals := 21 } (mPc z (mW z r σ) sz [.ref (r 0), .int a0]) (gM z (va_A (mW z r σ) sz) (some (.int res.1)) (mW z r res.2)) 0 0 (va_A (mW z r σ) sz) := by
  refine mk_m_i (own := RX12) (wf := mW z r) (by decide) rfl sz _ (Nat.le_of_ble_eq_true rfl) (fun p e s m below meth c A H locs Q ls S hK hA hP hD hS hl hend => ?_)
  have hx := S.1
  have hb := S.2.1
  have hown := S.2.2.2.1
  have hts := S.2.2.2.2
  have hl : lv_has ls 2 [(0, .ref (r 0)), (1, .int a0)] := hl
  unfold F_X12_high at hf
  refine lv_aload_n hx hb dX12_high_0 rfl (lv_at hl 0 rfl) ?_
  refine lv_iconst (v := 0) hx hb dX12_high_1 (by decide) ?_
  refine fp_X12_thrownCode (v := (0 : Int32)) S hK hP hD hS tf_X12_7 dX12_high_2 (fun H locs hP hD hS => ?_)
  refine lv_aload_n hx hb dX12_high_5 rfl (lv_at hl 0 rfl) ?_
  refine lv_iload_n hx hb dX12_high_6 rfl (lv_at hl 1 rfl) ?_
  obtain ⟨v1, e_v1, hf⟩ := Option.bind_eq_some_iff.mp hf
  refine k_X12_part (a0 := a0) (res := v1) (hres := e_v1) S hK hP tl_X12_307 ⟨Nat.le_of_ble_eq_true rfl, Nat.le_of_ble_eq_true rfl⟩ hl.1 (Nat.le_of_ble_eq_true rfl) dX12_high_7 ?_
  refine lv_bipush (v := 32) hx hb dX12_high_10 (by decide) ?_
  refine lv_lshr (v := (j_lshr v1 (32 : Int32))) hx hb dX12_high_12 rfl ?_
  refine lv_l2i hx hb dX12_high_13 rfl ?_
  exact hend (j_lshr v1 (32 : Int32)).toInt32 (mu_thrownCode σ (0 : Int32)) H locs 14 ls (Option.some.inj hf) hP hD hS dX12_high_14
theorem k_X12_high {p : Program} {l : Launch} {e : Env} {R : Room} {s : State} {m : MethodId} {args : Array Value} {below : List Frame} {meth : Method} {c : Code} {H : Heap} {locs : List Loc} {Q : State → Prop} {cc : ByteArray} {pc : Nat} {ls : Array Slot} {rest : List Value} {own : String} {index nL : Nat} {A : Nat → Prop} {z : Cx} {r : Nat → Nat} {σ : MS} {a0 : Int32} {res : Int32 × MS} (hres : F_X12_high σ a0 = some res) (S : CallFix p m c cc nL s args tbG own) (hK : va_K z.1 vwCl (cxT z) s) (hA : ∀ q, s.heap.size ≤ q → A q) (hP : va_P z.1 vwCl (mW z r σ) H) (hD : va_D A (mW z r σ)) (hS : va_S A s.heap H locs) (hl : Cond.methodLink own index yX12_high ∈ tbG) (hR : 1 + 1 ≤ R.frames ∧ 8 + (2 + 11) + 21 ≤ R.locals) (hsz : ls.size = nL) (hcat : (rest.map fun v => v.category).sum ≤ 8) (hdg : decode cc pc = .ok (.invokevirtual index, 3)) (kk : ∀ (H : Heap) (locs : List Loc), va_P z.1 vwCl (mW z r res.2) H → va_D A (mW z r res.2) → va_S A s.heap H locs → W p l e R s m args below meth c H locs 0 0 Q (F0 m (pc + 3) ls (.int res.1 :: rest))) : W p l e R s m args below meth c H locs 0 0 Q (F0 m pc ls (.int a0 :: .ref (r 0) :: rest)) :=
  km (As := [.int a0]) (ov := some (.int res.1)) (w' := mW z r res.2) (q0 := 0) (ci := 11) S hK hA hP hD hS (c_X12_high l z r σ a0 H.size _ hres) ⟨tb_cB 1 S.2.2.2.2 tc_X12_high ti_X12 hl rfl rfl (by decide +kernel) hR, S.2.2.2.2 _ tm_X12_high, S.2.2.2.2 _ te_X12_high⟩ rfl rfl rfl rfl hsz rfl hcat hdg kk

theorem dX12_interrupt_0 : decode cX12_interrupt 0 = .ok (.aload_n 0, 1) := by decide +kernel
theorem dX12_interrupt_1 : decode cX12_interrupt 1 = .ok (.iconst 0, 1) := by decide +kernel
theorem dX12_interrupt_2 : decode cX12_interrupt 2 = .ok (.putfield 7, 3) := by decide +kernel
theorem dX12_interrupt_5 : decode cX12_interrupt 5 = .ok (.aload_n 0, 1) := by decide +kernel
theorem dX12_interrupt_6 : decode cX12_interrupt 6 = .ok (.iload_n 1, 1) := by decide +kernel
theorem dX12_interrupt_7 : decode cX12_interrupt 7 = .ok (.putfield 60, 3) := by decide +kernel
theorem dX12_interrupt_10 : decode cX12_interrupt 10 = .ok (.return_, 1) := by decide +kernel
def F_X12_interrupt (σ : MS) (a0 : Bool) : MS := (mu_asked (mu_thrownCode σ (0 : Int32)) a0)
set_option maxHeartbeats 4000000 in
set_option maxRecDepth 100000 in
theorem c_X12_interrupt (l : Launch) (z : Cx) (r : Nat → Nat) (σ : MS) (a0 : Bool) (sz : Nat) (res : MS) (hf : F_X12_interrupt σ a0 = res) : Met l yX12_interrupt (wsC yX12_interrupt cX12_interrupt 2 none) { frames := 0, cells := 0, slots := 0, locals := 0 } (mPc z (mW z r σ) sz [.ref (r 0), .int (zB a0)]) (gM z (va_A (mW z r σ) sz) none (mW z r res)) 0 0 (va_A (mW z r σ) sz) := by
  refine mk_m_v (own := RX12) (wf := mW z r) (by decide) rfl sz _ (Nat.le_of_ble_eq_true rfl) (fun p e s m below meth c A H locs Q ls S hK hA hP hD hS hl hend => ?_)
  have hx := S.1
  have hb := S.2.1
  have hown := S.2.2.2.1
  have hts := S.2.2.2.2
  have hl : lv_has ls 2 [(0, .ref (r 0)), (1, .int (zB a0))] := hl
  unfold F_X12_interrupt at hf
  refine lv_aload_n hx hb dX12_interrupt_0 rfl (lv_at hl 0 rfl) ?_
  refine lv_iconst (v := 0) hx hb dX12_interrupt_1 (by decide) ?_
  refine fp_X12_thrownCode (v := (0 : Int32)) S hK hP hD hS tf_X12_7 dX12_interrupt_2 (fun H locs hP hD hS => ?_)
  refine lv_aload_n hx hb dX12_interrupt_5 rfl (lv_at hl 0 rfl) ?_
  refine lv_iload_n hx hb dX12_interrupt_6 rfl (lv_at hl 1 rfl) ?_
  refine fp_X12_asked (v := a0) S hK hP hD hS tf_X12_60 dX12_interrupt_7 (fun H locs hP hD hS => ?_)
  exact hend (mu_asked (mu_thrownCode σ (0 : Int32)) a0) H locs 10 ls hf hP hD hS dX12_interrupt_10
theorem k_X12_interrupt {p : Program} {l : Launch} {e : Env} {R : Room} {s : State} {m : MethodId} {args : Array Value} {below : List Frame} {meth : Method} {c : Code} {H : Heap} {locs : List Loc} {Q : State → Prop} {cc : ByteArray} {pc : Nat} {ls : Array Slot} {rest : List Value} {own : String} {index nL : Nat} {A : Nat → Prop} {z : Cx} {r : Nat → Nat} {σ : MS} {a0 : Bool} (S : CallFix p m c cc nL s args tbG own) (hK : va_K z.1 vwCl (cxT z) s) (hA : ∀ q, s.heap.size ≤ q → A q) (hP : va_P z.1 vwCl (mW z r σ) H) (hD : va_D A (mW z r σ)) (hS : va_S A s.heap H locs) (hl : Cond.methodLink own index yX12_interrupt ∈ tbG) (hR : 0 + 1 ≤ R.frames ∧ 8 + (2 + 11) + 0 ≤ R.locals) (hsz : ls.size = nL) (hcat : (rest.map fun v => v.category).sum ≤ 8) (hdg : decode cc pc = .ok (.invokevirtual index, 3)) (kk : ∀ (H : Heap) (locs : List Loc), va_P z.1 vwCl (mW z r (F_X12_interrupt σ a0)) H → va_D A (mW z r (F_X12_interrupt σ a0)) → va_S A s.heap H locs → W p l e R s m args below meth c H locs 0 0 Q (F0 m (pc + 3) ls (rest))) : W p l e R s m args below meth c H locs 0 0 Q (F0 m pc ls (.int (zB a0) :: .ref (r 0) :: rest)) :=
  km (As := [.int (zB a0)]) (ov := none) (w' := mW z r (F_X12_interrupt σ a0)) (q0 := 0) (ci := 11) S hK hA hP hD hS (c_X12_interrupt l z r σ a0 H.size _ rfl) ⟨tb_cB 1 S.2.2.2.2 tc_X12_interrupt ti_X12 hl rfl rfl (by decide +kernel) hR, S.2.2.2.2 _ tm_X12_interrupt, S.2.2.2.2 _ te_X12_interrupt⟩ rfl rfl rfl rfl hsz rfl hcat hdg kk

theorem dX12_step_0 : decode cX12_step 0 = .ok (.aload_n 0, 1) := by decide +kernel
theorem dX12_step_1 : decode cX12_step 1 = .ok (.iconst 0, 1) := by decide +kernel
theorem dX12_step_2 : decode cX12_step 2 = .ok (.putfield 7, 3) := by decide +kernel
theorem dX12_step_5 : decode cX12_step 5 = .ok (.iload_n 1, 1) := by decide +kernel
theorem dX12_step_6 : decode cX12_step 6 = .ok (.ifCond .lt 10, 3) := by decide +kernel
theorem dX12_step_9 : decode cX12_step 9 = .ok (.iload_n 1, 1) := by decide +kernel
theorem dX12_step_10 : decode cX12_step 10 = .ok (.sipush 2000, 3) := by decide +kernel
theorem dX12_step_13 : decode cX12_step 13 = .ok (.if_icmp .le 5, 3) := by decide +kernel
theorem dX12_step_16 : decode cX12_step 16 = .ok (.iconst (-1), 1) := by decide +kernel
theorem dX12_step_17 : decode cX12_step 17 = .ok (.ireturn, 1) := by decide +kernel
theorem dX12_step_18 : decode cX12_step 18 = .ok (.aload_n 0, 1) := by decide +kernel
theorem dX12_step_19 : decode cX12_step 19 = .ok (.iconst 0, 1) := by decide +kernel
theorem dX12_step_20 : decode cX12_step 20 = .ok (.putfield 48, 3) := by decide +kernel
theorem dX12_step_23 : decode cX12_step 23 = .ok (.iconst 0, 1) := by decide +kernel
theorem dX12_step_24 : decode cX12_step 24 = .ok (.istore_n 2, 1) := by decide +kernel
theorem dX12_step_25 : decode cX12_step 25 = .ok (.iload_n 2, 1) := by decide +kernel
theorem dX12_step_26 : decode cX12_step 26 = .ok (.iload_n 1, 1) := by decide +kernel
theorem dX12_step_27 : decode cX12_step 27 = .ok (.if_icmp .ge 13, 3) := by decide +kernel
theorem dX12_step_30 : decode cX12_step 30 = .ok (.aload_n 0, 1) := by decide +kernel
theorem dX12_step_31 : decode cX12_step 31 = .ok (.invokevirtual 310, 3) := by decide +kernel
theorem dX12_step_34 : decode cX12_step 34 = .ok (.iinc 2 1, 3) := by decide +kernel
theorem dX12_step_37 : decode cX12_step 37 = .ok (.goto (-12), 3) := by decide +kernel
theorem dX12_step_40 : decode cX12_step 40 = .ok (.aload_n 0, 1) := by decide +kernel
theorem dX12_step_41 : decode cX12_step 41 = .ok (.getfield 48, 3) := by decide +kernel
theorem dX12_step_44 : decode cX12_step 44 = .ok (.ireturn, 1) := by decide +kernel
def F_X12_step_c25 : Nat → MS → Int32 → Int32 → Option (Int32 × MS)
  | 0, _, _, _ => none
  | n + 1, τ, a0, w2 => (if a0 ≤ w2 then some (((m_taken τ), τ)) else ((F_X12_oneStep τ).bind fun v1 => (F_X12_step_c25 n v1 a0 (w2 + (1)))))
def F_X12_step (σ : MS) (a0 : Int32) : Option (Int32 × MS) := (if a0 < 0 then some (((-1 : Int32), (mu_thrownCode σ (0 : Int32)))) else (if a0 ≤ (2000 : Int32) then (F_X12_step_c25 2001 (mu_taken (mu_thrownCode σ (0 : Int32)) (0 : Int32)) a0 (0 : Int32)) else some (((-1 : Int32), (mu_thrownCode σ (0 : Int32))))))
set_option maxHeartbeats 4000000 in
set_option maxRecDepth 100000 in
theorem c_X12_step (l : Launch) (z : Cx) (r : Nat → Nat) (σ : MS) (a0 : Int32) (sz : Nat) (res : Int32 × MS) (hf : F_X12_step σ a0 = some res) : Met l yX12_step (wsC yX12_step cX12_step 3 (some .int)) { frames := 8, cells := 0, slots := 0, locals := 210 } (mPc z (mW z r σ) sz [.ref (r 0), .int a0]) (gM z (va_A (mW z r σ) sz) (some (.int res.1)) (mW z r res.2)) 0 0 (va_A (mW z r σ) sz) := by
  refine mk_m_i (own := RX12) (wf := mW z r) (by decide) rfl sz _ (Nat.le_of_ble_eq_true rfl) (fun p e s m below meth c A H locs Q ls S hK hA hP hD hS hl hend => ?_)
  have hx := S.1
  have hb := S.2.1
  have hown := S.2.2.2.1
  have hts := S.2.2.2.2
  have hl : lv_has ls 3 [(0, .ref (r 0)), (1, .int a0)] := hl
  have J_c25 : ∀ (n : Nat) (τ : MS) (w2 : Int32) (H : Heap) (locs : List Loc) (ls : Array Slot), F_X12_step_c25 n τ a0 w2 = some res → va_P z.1 vwCl (mW z r τ) H → va_D A (mW z r τ) → va_S A s.heap H locs → lv_has ls 3 [(0, .ref (r 0)), (1, .int a0), (2, .int w2)] → W p l e { frames := 8, cells := 0, slots := 0, locals := 210 } s m ([.ref (r 0), .int a0] : List Value).toArray below meth c H locs 0 0 Q (F0 m 25 ls []) := by
    intro n
    induction n with
    | zero => intro τ w2 H locs ls hf; rw [F_X12_step_c25] at hf; cases hf
    | succ n ih =>
      intro τ w2 H locs ls hf hP hD hS hl
      rw [F_X12_step_c25] at hf
      refine lv_iload_n hx hb dX12_step_25 rfl (lv_at hl 2 rfl) ?_
      refine lv_iload_n hx hb dX12_step_26 rfl (lv_at hl 1 rfl) ?_
      refine lv_icmp_ge (tgt := 40) hx hb dX12_step_27 (by decide) (fun c_27 => ?_) (fun c_27 => ?_)
      · rw [if_pos c_27] at hf
        refine lv_aload_n hx hb dX12_step_40 rfl (lv_at hl 0 rfl) ?_
        refine fg_X12_taken S hK hP tf_X12_48 dX12_step_41 ?_
        exact hend (m_taken τ) τ H locs 44 ls (Option.some.inj hf) hP hD hS dX12_step_44
      · rw [if_neg c_27] at hf
        refine lv_aload_n hx hb dX12_step_30 rfl (lv_at hl 0 rfl) ?_
        obtain ⟨v1, e_v1, hf⟩ := Option.bind_eq_some_iff.mp hf
        refine k_X12_oneStep (res := v1) (hres := e_v1) S hK hA hP hD hS tl_X12_310 ⟨Nat.le_of_ble_eq_true rfl, Nat.le_of_ble_eq_true rfl⟩ hl.1 (Nat.le_of_ble_eq_true rfl) dX12_step_31 (fun H locs hP hD hS => ?_)
        refine lv_iinc (v := w2 + (1)) (lv' := [(2, .int (w2 + (1))), (0, .ref (r 0)), (1, .int a0)]) hx hb dX12_step_34 hl (k := 2) rfl rfl (by decide) rfl (fun ls hl => ?_)
        refine lv_goto (tgt := 25) hx hb dX12_step_37 (by decide) ?_
        exact ih v1 (w2 + (1)) H locs ls hf hP hD hS (lv_sub hl [1, 2, 0] rfl)
  unfold F_X12_step at hf
  refine lv_aload_n hx hb dX12_step_0 rfl (lv_at hl 0 rfl) ?_
  refine lv_iconst (v := 0) hx hb dX12_step_1 (by decide) ?_
  refine fp_X12_thrownCode (v := (0 : Int32)) S hK hP hD hS tf_X12_7 dX12_step_2 (fun H locs hP hD hS => ?_)
  refine lv_iload_n hx hb dX12_step_5 rfl (lv_at hl 1 rfl) ?_
  refine lv_if_lt (tgt := 16) hx hb dX12_step_6 (by decide) (fun c_6 => ?_) (fun c_6 => ?_)
  · rw [if_pos c_6] at hf
    refine lv_iconst (v := -1) hx hb dX12_step_16 (by decide) ?_
    exact hend (-1 : Int32) (mu_thrownCode σ (0 : Int32)) H locs 17 ls (Option.some.inj hf) hP hD hS dX12_step_17
  · rw [if_neg c_6] at hf
    refine lv_iload_n hx hb dX12_step_9 rfl (lv_at hl 1 rfl) ?_
    refine lv_sipush (v := 2000) hx hb dX12_step_10 (by decide) ?_
    refine lv_icmp_le (tgt := 18) hx hb dX12_step_13 (by decide) (fun c_13 => ?_) (fun c_13 => ?_)
    · rw [if_pos c_13] at hf
      refine lv_aload_n hx hb dX12_step_18 rfl (lv_at hl 0 rfl) ?_
      refine lv_iconst (v := 0) hx hb dX12_step_19 (by decide) ?_
      refine fp_X12_taken (v := (0 : Int32)) S hK hP hD hS tf_X12_48 dX12_step_20 (fun H locs hP hD hS => ?_)
      refine lv_iconst (v := 0) hx hb dX12_step_23 (by decide) ?_
      refine lv_istore_n (lv' := [(2, .int (0 : Int32)), (0, .ref (r 0)), (1, .int a0)]) hx hb dX12_step_24 rfl hl (by decide) rfl (fun ls hl => ?_)
      exact J_c25 2001 (mu_taken (mu_thrownCode σ (0 : Int32)) (0 : Int32)) (0 : Int32) H locs ls hf hP hD hS (lv_sub hl [1, 2, 0] rfl)
    · rw [if_neg c_13] at hf
      refine lv_iconst (v := -1) hx hb dX12_step_16 (by decide) ?_
      exact hend (-1 : Int32) (mu_thrownCode σ (0 : Int32)) H locs 17 ls (Option.some.inj hf) hP hD hS dX12_step_17
theorem k_X12_step {p : Program} {l : Launch} {e : Env} {R : Room} {s : State} {m : MethodId} {args : Array Value} {below : List Frame} {meth : Method} {c : Code} {H : Heap} {locs : List Loc} {Q : State → Prop} {cc : ByteArray} {pc : Nat} {ls : Array Slot} {rest : List Value} {own : String} {index nL : Nat} {A : Nat → Prop} {z : Cx} {r : Nat → Nat} {σ : MS} {a0 : Int32} {res : Int32 × MS} (hres : F_X12_step σ a0 = some res) (S : CallFix p m c cc nL s args tbG own) (hK : va_K z.1 vwCl (cxT z) s) (hA : ∀ q, s.heap.size ≤ q → A q) (hP : va_P z.1 vwCl (mW z r σ) H) (hD : va_D A (mW z r σ)) (hS : va_S A s.heap H locs) (hl : Cond.methodLink own index yX12_step ∈ tbG) (hR : 8 + 1 ≤ R.frames ∧ 8 + (3 + 11) + 210 ≤ R.locals) (hsz : ls.size = nL) (hcat : (rest.map fun v => v.category).sum ≤ 8) (hdg : decode cc pc = .ok (.invokevirtual index, 3)) (kk : ∀ (H : Heap) (locs : List Loc), va_P z.1 vwCl (mW z r res.2) H → va_D A (mW z r res.2) → va_S A s.heap H locs → W p l e R s m args below meth c H locs 0 0 Q (F0 m (pc + 3) ls (.int res.1 :: rest))) : W p l e R s m args below meth c H locs 0 0 Q (F0 m pc ls (.int a0 :: .ref (r 0) :: rest)) :=
  km (As := [.int a0]) (ov := some (.int res.1)) (w' := mW z r res.2) (q0 := 0) (ci := 11) S hK hA hP hD hS (c_X12_step l z r σ a0 H.size _ hres) ⟨tb_cB 1 S.2.2.2.2 tc_X12_step ti_X12 hl rfl rfl (by decide +kernel) hR, S.2.2.2.2 _ tm_X12_step, S.2.2.2.2 _ te_X12_step⟩ rfl rfl rfl rfl hsz rfl hcat hdg kk

theorem dX12_look_0 : decode cX12_look 0 = .ok (.aload_n 0, 1) := by decide +kernel
theorem dX12_look_1 : decode cX12_look 1 = .ok (.iconst 0, 1) := by decide +kernel
theorem dX12_look_2 : decode cX12_look 2 = .ok (.putfield 7, 3) := by decide +kernel
theorem dX12_look_5 : decode cX12_look 5 = .ok (.iload_n 3, 1) := by decide +kernel
theorem dX12_look_6 : decode cX12_look 6 = .ok (.ifCond .lt 19, 3) := by decide +kernel
theorem dX12_look_9 : decode cX12_look 9 = .ok (.iload_n 3, 1) := by decide +kernel
theorem dX12_look_10 : decode cX12_look 10 = .ok (.iconst 2, 1) := by decide +kernel
theorem dX12_look_11 : decode cX12_look 11 = .ok (.if_icmp .gt 14, 3) := by decide +kernel
theorem dX12_look_14 : decode cX12_look 14 = .ok (.iload 4, 2) := by decide +kernel
theorem dX12_look_16 : decode cX12_look 16 = .ok (.ifCond .lt 9, 3) := by decide +kernel
theorem dX12_look_19 : decode cX12_look 19 = .ok (.iload 4, 2) := by decide +kernel
theorem dX12_look_21 : decode cX12_look 21 = .ok (.iconst 1, 1) := by decide +kernel
theorem dX12_look_22 : decode cX12_look 22 = .ok (.if_icmp .le 6, 3) := by decide +kernel
theorem dX12_look_25 : decode cX12_look 25 = .ok (.bipush (-100), 2) := by decide +kernel
theorem dX12_look_27 : decode cX12_look 27 = .ok (.ireturn, 1) := by decide +kernel
theorem dX12_look_28 : decode cX12_look 28 = .ok (.aload_n 0, 1) := by decide +kernel
theorem dX12_look_29 : decode cX12_look 29 = .ok (.iload_n 1, 1) := by decide +kernel
theorem dX12_look_30 : decode cX12_look 30 = .ok (.i2l, 1) := by decide +kernel
theorem dX12_look_31 : decode cX12_look 31 = .ok (.bipush 32, 2) := by decide +kernel
theorem dX12_look_33 : decode cX12_look 33 = .ok (.lshl, 1) := by decide +kernel
theorem dX12_look_34 : decode cX12_look 34 = .ok (.iload_n 2, 1) := by decide +kernel
theorem dX12_look_35 : decode cX12_look 35 = .ok (.i2l, 1) := by decide +kernel
theorem dX12_look_36 : decode cX12_look 36 = .ok (.ldc2_w 116, 3) := by decide +kernel
theorem dX12_look_39 : decode cX12_look 39 = .ok (.land, 1) := by decide +kernel
theorem dX12_look_40 : decode cX12_look 40 = .ok (.lor, 1) := by decide +kernel
theorem dX12_look_41 : decode cX12_look 41 = .ok (.iload_n 3, 1) := by decide +kernel
theorem dX12_look_42 : decode cX12_look 42 = .ok (.iload 4, 2) := by decide +kernel
theorem dX12_look_44 : decode cX12_look 44 = .ok (.invokevirtual 200, 3) := by decide +kernel
theorem dX12_look_47 : decode cX12_look 47 = .ok (.ifCond .eq 11, 3) := by decide +kernel
theorem dX12_look_50 : decode cX12_look 50 = .ok (.aload_n 0, 1) := by decide +kernel
theorem dX12_look_51 : decode cX12_look 51 = .ok (.iconst 1, 1) := by decide +kernel
theorem dX12_look_52 : decode cX12_look 52 = .ok (.invokevirtual 204, 3) := by decide +kernel
theorem dX12_look_55 : decode cX12_look 55 = .ok (.ifCond .ne 10, 3) := by decide +kernel
theorem dX12_look_58 : decode cX12_look 58 = .ok (.iconst (-1), 1) := by decide +kernel
theorem dX12_look_59 : decode cX12_look 59 = .ok (.aload_n 0, 1) := by decide +kernel
theorem dX12_look_60 : decode cX12_look 60 = .ok (.getfield 41, 3) := by decide +kernel
theorem dX12_look_63 : decode cX12_look 63 = .ok (.isub, 1) := by decide +kernel
theorem dX12_look_64 : decode cX12_look 64 = .ok (.ireturn, 1) := by decide +kernel
theorem dX12_look_65 : decode cX12_look 65 = .ok (.aload_n 0, 1) := by decide +kernel
theorem dX12_look_66 : decode cX12_look 66 = .ok (.getfield 44, 3) := by decide +kernel
theorem dX12_look_69 : decode cX12_look 69 = .ok (.l2i, 1) := by decide +kernel
theorem dX12_look_70 : decode cX12_look 70 = .ok (.ireturn, 1) := by decide +kernel
def F_X12_look_c58 (τ : MS) (a0 : Int32) (a1 : Int32) (a2 : Int32) (a3 : Int32) : Option (Int32 × MS) := some ((((-1 : Int32) - (m_faultWhat τ)), τ))
def F_X12_look (σ : MS) (a0 : Int32) (a1 : Int32) (a2 : Int32) (a3 : Int32) : Option (Int32 × MS) := (if a2 < 0 then some (((-100 : Int32), (mu_thrownCode σ (0 : Int32)))) else (if (2 : Int32) < a2 then some (((-100 : Int32), (mu_thrownCode σ (0 : Int32)))) else (if a3 < 0 then some (((-100 : Int32), (mu_thrownCode σ (0 : Int32)))) else (if a3 ≤ (1 : Int32) then ((F_X12_leads (mu_thrownCode σ (0 : Int32)) ((j_lshl a0.toInt64 (32 : Int32)) ||| (a1.toInt64 &&& (4294967295 : Int64))) a2 a3).bind fun v1 => (if v1.1 = true then (if (F_X12_inside v1.2 (1 : Int32)).1 = true then some (((m_place (F_X12_inside v1.2 (1 : Int32)).2).toInt32, (F_X12_inside v1.2 (1 : Int32)).2)) else (F_X12_look_c58 (F_X12_inside v1.2 (1 : Int32)).2 a0 a1 a2 a3)) else (F_X12_look_c58 v1.2 a0 a1 a2 a3))) else some (((-100 : Int32), (mu_thrownCode σ (0 : Int32))))))))
set_option maxHeartbeats 4000000 in
set_option maxRecDepth 100000 in
theorem c_X12_look (l : Launch) (z : Cx) (r : Nat → Nat) (σ : MS) (a0 : Int32) (a1 : Int32) (a2 : Int32) (a3 : Int32) (sz : Nat) (res : Int32 × MS) (hf : F_X12_look σ a0 a1 a2 a3 = some res) : Met l yX12_look (wsC yX12_look cX12_look 5 (some .int)) { frames := 2, cells := 0, slots := 0, locals := 59 } (mPc z (mW z r σ) sz [.ref (r 0), .int a0, .int a1, .int a2, .int a3]) (gM z (va_A (mW z r σ) sz) (some (.int res.1)) (mW z r res.2)) 0 0 (va_A (mW z r σ) sz) := by
  refine mk_m_i (own := RX12) (wf := mW z r) (by decide) rfl sz _ (Nat.le_of_ble_eq_true rfl) (fun p e s m below meth c A H locs Q ls S hK hA hP hD hS hl hend => ?_)
  have hx := S.1
  have hb := S.2.1
  have hown := S.2.2.2.1
  have hts := S.2.2.2.2
  have hl : lv_has ls 5 [(0, .ref (r 0)), (1, .int a0), (2, .int a1), (3, .int a2), (4, .int a3)] := hl
  have J_c58 : ∀ (τ : MS) (H : Heap) (locs : List Loc) (ls : Array Slot), F_X12_look_c58 τ a0 a1 a2 a3 = some res → va_P z.1 vwCl (mW z r τ) H → va_D A (mW z r τ) → va_S A s.heap H locs → lv_has ls 5 [(0, .ref (r 0))] → W p l e { frames := 2, cells := 0, slots := 0, locals := 59 } s m ([.ref (r 0), .int a0, .int a1, .int a2, .int a3] : List Value).toArray below meth c H locs 0 0 Q (F0 m 58 ls []) := by
    intro τ H locs ls hf hP hD hS hl
    unfold F_X12_look_c58 at hf
    refine lv_iconst (v := -1) hx hb dX12_look_58 (by decide) ?_
    refine lv_aload_n hx hb dX12_look_59 rfl (lv_at hl 0 rfl) ?_
    refine fg_X12_faultWhat S hK hP tf_X12_41 dX12_look_60 ?_
    refine lv_isub hx hb dX12_look_63 ?_
    exact hend ((-1 : Int32) - (m_faultWhat τ)) τ H locs 64 ls (Option.some.inj hf) hP hD hS dX12_look_64
  unfold F_X12_look at hf
  refine lv_aload_n hx hb dX12_look_0 rfl (lv_at hl 0 rfl) ?_
  refine lv_iconst (v := 0) hx hb dX12_look_1 (by decide) ?_
  refine fp_X12_thrownCode (v := (0 : Int32)) S hK hP hD hS tf_X12_7 dX12_look_2 (fun H locs hP hD hS => ?_)
  refine lv_iload_n hx hb dX12_look_5 rfl (lv_at hl 3 rfl) ?_
  refine lv_if_lt (tgt := 25) hx hb dX12_look_6 (by decide) (fun c_6 => ?_) (fun c_6 => ?_)
  · rw [if_pos c_6] at hf
    refine lv_bipush (v := -100) hx hb dX12_look_25 (by decide) ?_
    exact hend (-100 : Int32) (mu_thrownCode σ (0 : Int32)) H locs 27 ls (Option.some.inj hf) hP hD hS dX12_look_27
  · rw [if_neg c_6] at hf
    refine lv_iload_n hx hb dX12_look_9 rfl (lv_at hl 3 rfl) ?_
    refine lv_iconst (v := 2) hx hb dX12_look_10 (by decide) ?_
    refine lv_icmp_gt (tgt := 25) hx hb dX12_look_11 (by decide) (fun c_11 => ?_) (fun c_11 => ?_)
    · rw [if_pos c_11] at hf
      refine lv_bipush (v := -100) hx hb dX12_look_25 (by decide) ?_
      exact hend (-100 : Int32) (mu_thrownCode σ (0 : Int32)) H locs 27 ls (Option.some.inj hf) hP hD hS dX12_look_27
    · rw [if_neg c_11] at hf
      refine lv_iload hx hb dX12_look_14 (lv_at hl 4 rfl) ?_
      refine lv_if_lt (tgt := 25) hx hb dX12_look_16 (by decide) (fun c_16 => ?_) (fun c_16 => ?_)
      · rw [if_pos c_16] at hf
        refine lv_bipush (v := -100) hx hb dX12_look_25 (by decide) ?_
        exact hend (-100 : Int32) (mu_thrownCode σ (0 : Int32)) H locs 27 ls (Option.some.inj hf) hP hD hS dX12_look_27
      · rw [if_neg c_16] at hf
        refine lv_iload hx hb dX12_look_19 (lv_at hl 4 rfl) ?_
        refine lv_iconst (v := 1) hx hb dX12_look_21 (by decide) ?_
        refine lv_icmp_le (tgt := 28) hx hb dX12_look_22 (by decide) (fun c_22 => ?_) (fun c_22 => ?_)
        · rw [if_pos c_22] at hf
          refine lv_aload_n hx hb dX12_look_28 rfl (lv_at hl 0 rfl) ?_
          refine lv_iload_n hx hb dX12_look_29 rfl (lv_at hl 1 rfl) ?_
          refine lv_i2l hx hb dX12_look_30 rfl ?_
          refine lv_bipush (v := 32) hx hb dX12_look_31 (by decide) ?_
          refine lv_lshl (v := (j_lshl a0.toInt64 (32 : Int32))) hx hb dX12_look_33 rfl ?_
          refine lv_iload_n hx hb dX12_look_34 rfl (lv_at hl 2 rfl) ?_
          refine lv_i2l hx hb dX12_look_35 rfl ?_
          refine lv_ldc2 (v := 4294967295) hx hb hown (hts _ tk_X12_116) dX12_look_36 ?_
          refine lv_land hx hb dX12_look_39 ?_
          refine lv_lor hx hb dX12_look_40 ?_
          refine lv_iload_n hx hb dX12_look_41 rfl (lv_at hl 3 rfl) ?_
          refine lv_iload hx hb dX12_look_42 (lv_at hl 4 rfl) ?_
          obtain ⟨v1, e_v1, hf⟩ := Option.bind_eq_some_iff.mp hf
          refine k_X12_leads (a0 := ((j_lshl a0.toInt64 (32 : Int32)) ||| (a1.toInt64 &&& (4294967295 : Int64)))) (a1 := a2) (a2 := a3) (res := v1) (hres := e_v1) S hK hA hP hD hS tl_X12_200 ⟨Nat.le_of_ble_eq_true rfl, Nat.le_of_ble_eq_true rfl⟩ hl.1 (Nat.le_of_ble_eq_true rfl) dX12_look_44 (fun H locs hP hD hS => ?_)
          refine gz_eq (tgt := 58) hx hb dX12_look_47 (by decide) (fun c_47 => ?_) (fun c_47 => ?_)
          · rw [if_neg c_47] at hf
            exact J_c58 v1.2 H locs ls hf hP hD hS (lv_sub hl [0] rfl)
          · rw [if_pos c_47] at hf
            refine lv_aload_n hx hb dX12_look_50 rfl (lv_at hl 0 rfl) ?_
            refine lv_iconst (v := 1) hx hb dX12_look_51 (by decide) ?_
            refine k_X12_inside (a0 := (1 : Int32)) S hK hA hP hD hS tl_X12_204 ⟨Nat.le_of_ble_eq_true rfl, Nat.le_of_ble_eq_true rfl⟩ hl.1 (Nat.le_of_ble_eq_true rfl) dX12_look_52 (fun H locs hP hD hS => ?_)
            refine gz_ne (tgt := 65) hx hb dX12_look_55 (by decide) (fun c_55 => ?_) (fun c_55 => ?_)
            · rw [if_pos c_55] at hf
              refine lv_aload_n hx hb dX12_look_65 rfl (lv_at hl 0 rfl) ?_
              refine fg_X12_place S hK hP tf_X12_44 dX12_look_66 ?_
              refine lv_l2i hx hb dX12_look_69 rfl ?_
              exact hend (m_place (F_X12_inside v1.2 (1 : Int32)).2).toInt32 (F_X12_inside v1.2 (1 : Int32)).2 H locs 70 ls (Option.some.inj hf) hP hD hS dX12_look_70
            · rw [if_neg c_55] at hf
              exact J_c58 (F_X12_inside v1.2 (1 : Int32)).2 H locs ls hf hP hD hS (lv_sub hl [0] rfl)
        · rw [if_neg c_22] at hf
          refine lv_bipush (v := -100) hx hb dX12_look_25 (by decide) ?_
          exact hend (-100 : Int32) (mu_thrownCode σ (0 : Int32)) H locs 27 ls (Option.some.inj hf) hP hD hS dX12_look_27
theorem k_X12_look {p : Program} {l : Launch} {e : Env} {R : Room} {s : State} {m : MethodId} {args : Array Value} {below : List Frame} {meth : Method} {c : Code} {H : Heap} {locs : List Loc} {Q : State → Prop} {cc : ByteArray} {pc : Nat} {ls : Array Slot} {rest : List Value} {own : String} {index nL : Nat} {A : Nat → Prop} {z : Cx} {r : Nat → Nat} {σ : MS} {a0 : Int32} {a1 : Int32} {a2 : Int32} {a3 : Int32} {res : Int32 × MS} (hres : F_X12_look σ a0 a1 a2 a3 = some res) (S : CallFix p m c cc nL s args tbG own) (hK : va_K z.1 vwCl (cxT z) s) (hA : ∀ q, s.heap.size ≤ q → A q) (hP : va_P z.1 vwCl (mW z r σ) H) (hD : va_D A (mW z r σ)) (hS : va_S A s.heap H locs) (hl : Cond.methodLink own index yX12_look ∈ tbG) (hR : 2 + 1 ≤ R.frames ∧ 8 + (5 + 11) + 59 ≤ R.locals) (hsz : ls.size = nL) (hcat : (rest.map fun v => v.category).sum ≤ 8) (hdg : decode cc pc = .ok (.invokevirtual index, 3)) (kk : ∀ (H : Heap) (locs : List Loc), va_P z.1 vwCl (mW z r res.2) H → va_D A (mW z r res.2) → va_S A s.heap H locs → W p l e R s m args below meth c H locs 0 0 Q (F0 m (pc + 3) ls (.int res.1 :: rest))) : W p l e R s m args below meth c H locs 0 0 Q (F0 m pc ls (.int a3 :: .int a2 :: .int a1 :: .int a0 :: .ref (r 0) :: rest)) :=
  km (As := [.int a0, .int a1, .int a2, .int a3]) (ov := some (.int res.1)) (w' := mW z r res.2) (q0 := 0) (ci := 11) S hK hA hP hD hS (c_X12_look l z r σ a0 a1 a2 a3 H.size _ hres) ⟨tb_cB 4 S.2.2.2.2 tc_X12_look ti_X12 hl rfl rfl (by decide +kernel) hR, S.2.2.2.2 _ tm_X12_look, S.2.2.2.2 _ te_X12_look⟩ rfl rfl rfl rfl hsz rfl hcat hdg kk

