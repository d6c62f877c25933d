theorem mul16 {h : Nat} (hh : h < 4) : (16 : Int32) * nI h = nI (16 * h) := by
  rw [show (16 : Int32) = nI 16 from rfl, pk_mul]
theorem lb_ffff {p : Nat} (hp : p < 64) {i : Nat} (hi : i < 64) : lb (j_lshl 65535 (nI p)) i = (decide (p ≤ i) && decide (i - p < 16)) := by
  rw [lb_shl _ _ hi, s6_nI hp]
  show (decide (p ≤ i) && lb (lN (2 ^ 16 - 1)) (i - p)) = _
  rw [lb_lN, Nat.testBit_two_pow_sub_one]
  by_cases h : p ≤ i
  · have h2 : i - p < 64 := by omega
    simp [h, h2]
  · simp [h]
theorem move_hi {v p : Nat} (hv : v < 2 ^ 16) (hp : p < 64) {w : Bool} (hw : p + 16 ≤ wd w) : F_X1_narrow (j_lshl (nI v).toInt64 (nI p)) w = j_lshl (nI v).toInt64 (nI p) := by
  apply narrow_of
  intro i hi
  by_cases h : i < 64
  · rw [lb_shl _ _ h, s6_nI hp, nI_toL (by omega), lb_lN]
    rw [Nat.testBit_lt_two_pow (Nat.lt_of_lt_of_le hv (Nat.pow_le_pow_right (by decide) (by omega)))]
    simp
  · exact lb_big _ (by omega)
theorem i_move {τ : MS} {pc : Int64} (t0 : Int32) (h : Ok τ pc) : Res (F_X12_move τ) (F_X5_move (xm τ pc t0) (m_ins τ)) τ pc t0 := by
  have ho := fN_lt (iU (m_ins τ)) 29 2
  have hh := fN_lt (iU (m_ins τ)) 21 2
  have hv := fN_lt (iU (m_ins τ)) 5 16
  have eX : F_X5_move (xm τ pc t0) (m_ins τ) = F_X5_move_c30 (xm τ pc t0) (m_ins τ) (wb τ) (nI (fN (iU (m_ins τ)) 29 2)) (nI (16 * fN (iU (m_ins τ)) 21 2)) := by
    unfold F_X5_move F_X5_move_c9 F_X5_move_c18
    rw [gL_29_2, gL_21_2, mul16 hh]
    exact pos_wb τ (fun b => F_X5_move_c30 (xm τ pc t0) (m_ins τ) b (nI (fN (iU (m_ins τ)) 29 2)) (nI (16 * fN (iU (m_ins τ)) 21 2)))
  unfold F_X12_move F_X12_move_c5
  rw [eX, width_wd, fL_30_29, Option.bind_some, fL_22_21, Option.bind_some]
  unfold F_X5_move_c30
  by_cases h1 : nI (fN (iU (m_ins τ)) 29 2) = (1 : Int32)
  · rw [if_pos h1, if_pos h1]
    exact Res.none h rfl rfl
  · rw [if_neg h1, if_neg h1, xwidth]
    have q1 : nI (fN (iU (m_ins τ)) 21 2) ≤ (1 : Int32) ↔ fN (iU (m_ins τ)) 21 2 ≤ 1 := by
      rw [show (1 : Int32) = nI 1 from rfl]; exact nI_leI (by omega) (by omega)
    have q2 : nI (wd (wb τ)) = (32 : Int32) ↔ wd (wb τ) = 32 := by
      rw [show (32 : Int32) = nI 32 from rfl]; exact nI_eq (by have := wd_le (wb τ); omega) (by omega)
    by_cases hp : 16 * fN (iU (m_ins τ)) 21 2 < wd (wb τ)
    · rw [if_pos ((lt_wd (by omega) _).mpr hp)]
      have eM : (if nI (fN (iU (m_ins τ)) 21 2) ≤ (1 : Int32) then F_X12_move_c44 τ (nI (wd (wb τ))) (nI (fN (iU (m_ins τ)) 29 2)) (nI (fN (iU (m_ins τ)) 21 2)) else if nI (wd (wb τ)) = (32 : Int32) then F_X12_move_c39 τ else F_X12_move_c44 τ (nI (wd (wb τ))) (nI (fN (iU (m_ins τ)) 29 2)) (nI (fN (iU (m_ins τ)) 21 2))) = F_X12_move_c44 τ (nI (wd (wb τ))) (nI (fN (iU (m_ins τ)) 29 2)) (nI (fN (iU (m_ins τ)) 21 2)) := by
        by_cases a : nI (fN (iU (m_ins τ)) 21 2) ≤ (1 : Int32)
        · rw [if_pos a]
        · rw [if_neg a, if_neg]
          intro b
          rw [q1] at a
          rw [q2] at b
          omega
      rw [eM]
      have hp16 : 16 * fN (iU (m_ins τ)) 21 2 + 16 ≤ wd (wb τ) := by
        rcases wd_cases (wb τ) with e | e <;> rw [e] at hp ⊢ <;> omega
      have hp64 : 16 * fN (iU (m_ins τ)) 21 2 < 64 := by have := wd_le (wb τ); omega
      unfold F_X12_move_c44 F_X5_move_c54
      rw [fL_20_5, Option.bind_some, gL_5_16, gL_0_5, mul16 hh]
      have hi := move_hi hv hp64 hp16
      generalize hie : j_lshl (nI (fN (iU (m_ins τ)) 5 16)).toInt64 (nI (16 * fN (iU (m_ins τ)) 21 2)) = i at hi
      unfold F_X12_move_c59 F_X5_move_c67 F_X5_move_c79 F_X5_move_c112 F_X5_move_c127 F_X12_move_c79 F_X12_move_c116
      have fin : ∀ r, Res ((F_X12_f τ 4 0).bind fun v4 => (F_X12_put τ v4 r).bind fun v5 => some v5) (true, F_X8_putRegister (xm τ pc t0) (nI (fN (iU (m_ins τ)) 0 5)) r) τ pc t0 := by
        intro r
        obtain ⟨τ', a1, a2, a3⟩ := tailR t0 h.ok' r
        rw [a3]
        exact Res.of ⟨τ', a1, a2, rfl⟩
      have hoc : fN (iU (m_ins τ)) 29 2 = 0 ∨ fN (iU (m_ins τ)) 29 2 = 2 ∨ fN (iU (m_ins τ)) 29 2 = 3 := by
        have : fN (iU (m_ins τ)) 29 2 ≠ 1 := fun e => h1 (by rw [e]; rfl)
        omega
      rcases hoc with e | e | e <;> rw [e]
      · rw [if_pos (show nI 0 = (0 : Int32) from rfl), if_pos (show nI 0 = (0 : Int32) from rfl), if_neg (show ¬ nI 0 = (3 : Int32) by decide), cut_eq]
        exact fin _
      · rw [if_neg (show ¬ nI 2 = (0 : Int32) by decide), if_neg (show ¬ nI 2 = (0 : Int32) by decide), if_neg (show ¬ nI 2 = (3 : Int32) by decide), if_neg (show ¬ nI 2 = (3 : Int32) by decide), hi]
        exact fin _
      · rw [if_neg (show ¬ nI 3 = (0 : Int32) by decide), if_neg (show ¬ nI 3 = (0 : Int32) by decide), if_pos (show nI 3 = (3 : Int32) from rfl), if_pos (show nI 3 = (3 : Int32) from rfl)]
        have hR : ((F_X12_f τ 4 0).bind fun v6 => (F_X12_reg τ v6).bind fun v7 => (F_X12_f τ 4 0).bind fun v4 => (F_X12_put τ v4 (F_X12_cut v7 (nI (wd (wb τ))) &&& (j_lshl 65535 ((16 : Int32) * nI (fN (iU (m_ins τ)) 21 2)) ^^^ (-1)) ||| i)).bind fun v5 => some v5) = ((F_X12_f τ 4 0).bind fun v4 => (F_X12_put τ v4 (F_X1_narrow (rg τ (fN (iU (m_ins τ)) 0 5)) (wb τ) &&& (j_lshl 65535 (nI (16 * fN (iU (m_ins τ)) 21 2)) ^^^ (-1)) ||| i)).bind fun v5 => some v5) := by
          rw [fL_4_0, Option.bind_some, mreg _ (fN_lt _ _ _), Option.bind_some, cut_eq, mul16 hh]
        rw [hR, xreg _ _ _ (fN_lt _ _ _)]
        have eR : F_X1_narrow (i ||| (rg τ (fN (iU (m_ins τ)) 0 5) &&& (j_lshl 65535 (nI (16 * fN (iU (m_ins τ)) 21 2)) ^^^ (-1)))) (wb τ) = F_X1_narrow (rg τ (fN (iU (m_ins τ)) 0 5)) (wb τ) &&& (j_lshl 65535 (nI (16 * fN (iU (m_ins τ)) 21 2)) ^^^ (-1)) ||| i := by
          apply l_ext
          intro j hj
          rw [lb_narrow _ _ hj, lb_or, lb_or, lb_and, lb_and, lb_narrow _ _ hj]
          have hij : lb i j = (decide (j < wd (wb τ)) && lb i j) := by rw [← lb_narrow _ _ hj, hi]
          rw [hij]
          cases decide (j < wd (wb τ)) <;> cases lb i j <;> simp
        rw [eR]
        exact fin _
    · rw [if_neg (fun q => hp ((lt_wd (by omega) _).mp q))]
      have a : ¬ nI (fN (iU (m_ins τ)) 21 2) ≤ (1 : Int32) := by
        rw [q1]
        have := wd_ge (wb τ)
        omega
      have b : nI (wd (wb τ)) = (32 : Int32) := by
        rw [q2]
        rcases wd_cases (wb τ) with e | e
        · exact e
        · rw [e] at hp; omega
      rw [if_neg a, if_pos b]
      exact Res.none h rfl rfl
