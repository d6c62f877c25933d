theorem fN_tb (w p c i : Nat) : (fN w p c).testBit i = (decide (i < c) && w.testBit (p + i)) := by
  unfold fN
  rw [Nat.testBit_mod_two_pow, Nat.testBit_div_two_pow, Nat.add_comm]
theorem sub_nI {a b : Nat} (h : b ≤ a) : nI a - nI b = nI (a - b) := pk_sub h
theorem sf_bits (x : Int32) {l c : Nat} (hc : 1 ≤ c) (hlc : l + c ≤ 32) {i : Nat} (hi : i < 64) : lb (F_X1_signedField x (nI l) (nI c)) i = if i < c then (iU x).testBit (l + i) else (iU x).testBit (l + c - 1) := by
  unfold F_X1_signedField
  rw [show (32 : Int32) = nI 32 from rfl, sub_nI (by omega), sub_nI (by omega), sub_nI (by omega), lb_i2l _ hi]
  have key : ∀ j, j < 32 → ib ((x <<< (nI (32 - l - c) &&& 31)) >>> (nI (32 - c) &&& 31)) j = if j < c then (iU x).testBit (l + j) else (iU x).testBit (l + c - 1) := by
    intro j hj
    rw [ib_sshr _ _ hj, s5_nI (by omega)]
    by_cases h1 : 32 - c + j < 32
    · have h2 : j < c := by omega
      rw [if_pos h1, if_pos h2, ib_shl _ _ (by omega), s5_nI (by omega)]
      have h3 : 32 - l - c ≤ 32 - c + j := by omega
      have h4 : 32 - c + j - (32 - l - c) = l + j := by omega
      rw [h4, ib_tb]
      simp [h3]
    · have h2 : ¬ j < c := by omega
      rw [if_neg h1, if_neg h2, ib_shl _ _ (by omega), s5_nI (by omega)]
      have h3 : 32 - l - c ≤ 31 := by omega
      have h4 : 31 - (32 - l - c) = l + c - 1 := by omega
      rw [h4, ib_tb]
      simp [h3]
  by_cases h : i < 32
  · rw [if_pos h, key i h]
  · rw [if_neg h, key 31 (by omega)]
    have h2 : ¬ i < c := by omega
    rw [if_neg h2]
    by_cases h3 : 31 < c
    · rw [if_pos h3]
      congr 1
      omega
    · rw [if_neg h3]
theorem signed_eq (τ : MS) {h l c : Nat} (hl : l ≤ h) (hh : h < 32) (hc : c = h - l + 1) (hc2 : c < 32) : F_X12_signed τ (nI h) (nI l) = some (F_X1_signedField (m_ins τ) (nI l) (nI c)) := by
  unfold F_X12_signed
  have hv := fN_lt (iU (m_ins τ)) l (h + 1 - l)
  have e : h + 1 - l = c := by omega
  rw [e] at hv
  have hv2 : 2 ^ c ≤ 2 ^ 31 := Nat.pow_le_pow_right (by decide) (by omega)
  rw [f_eq τ hl hh (by omega), Option.bind_some, e, nI_toL (by omega), sub_nI hl, show (1 : Int32) = nI 1 from rfl, nI_add, ← hc]
  rw [ext_eq (t := F_X1_signedField (m_ins τ) (nI l) (nI c)) (by omega) (by omega), Option.bind_some]
  intro i hi
  rw [sf_bits _ (by omega) (by omega) hi, lb_lN, lb_lN, fN_tb, fN_tb]
  by_cases h1 : i < c
  · have h2 : ¬ c ≤ i := by omega
    simp [h1, hi, h2]
  · have h2 : c ≤ i := by omega
    have h3 : c - 1 < c := by omega
    have h4 : c - 1 < 64 := by omega
    have h5 : l + (c - 1) = l + c - 1 := by omega
    simp [h1, h2, h3, h4, h5]
theorem sL_18_5 (τ : MS) : F_X12_signed τ 18 5 = some (F_X1_signedField (m_ins τ) 5 14) := signed_eq τ (h := 18) (l := 5) (c := 14) (by decide) (by decide) (by decide) (by decide)
theorem sL_20_12 (τ : MS) : F_X12_signed τ 20 12 = some (F_X1_signedField (m_ins τ) 12 9) := signed_eq τ (h := 20) (l := 12) (c := 9) (by decide) (by decide) (by decide) (by decide)
theorem sL_21_15 (τ : MS) : F_X12_signed τ 21 15 = some (F_X1_signedField (m_ins τ) 15 7) := signed_eq τ (h := 21) (l := 15) (c := 7) (by decide) (by decide) (by decide) (by decide)
theorem sL_23_5 (τ : MS) : F_X12_signed τ 23 5 = some (F_X1_signedField (m_ins τ) 5 19) := signed_eq τ (h := 23) (l := 5) (c := 19) (by decide) (by decide) (by decide) (by decide)
theorem sL_25_0 (τ : MS) : F_X12_signed τ 25 0 = some (F_X1_signedField (m_ins τ) 0 26) := signed_eq τ (h := 25) (l := 0) (c := 26) (by decide) (by decide) (by decide) (by decide)
theorem i_place {τ : MS} {pc : Int64} (t0 : Int32) (h : Ok τ pc) : Res (F_X12_placeOf τ) (F_X5_place (xm τ pc t0) (m_ins τ)) τ pc t0 := by
  have h1 := fN_lt (iU (m_ins τ)) 5 19
  have h2 := fN_lt (iU (m_ins τ)) 29 2
  unfold F_X12_placeOf F_X5_place
  rw [fL_23_5, Option.bind_some, fL_30_29, Option.bind_some, gL_29_2]
  have hx : F_X12_extend (j_lshl (nI (fN (iU (m_ins τ)) 5 19)).toInt64 2 ||| (nI (fN (iU (m_ins τ)) 29 2)).toInt64) 21 = some (j_lshl (F_X1_signedField (m_ins τ) 5 19) 2 ||| (nI (fN (iU (m_ins τ)) 29 2)).toInt64) := by
    refine ext_eq (w := 21) (by decide) (by decide) (fun i hi => ?_)
    rw [nI_toL (by omega), nI_toL (by omega)]
    rw [lb_or, lb_or, lb_or, show (2 : Int32) = nI 2 from rfl, lb_shl _ _ hi, lb_shl _ _ hi, lb_shl _ _ (by decide), s6_nI (by decide), lb_lN, lb_lN, lb_lN, lb_lN, fN_tb, fN_tb, fN_tb, fN_tb]
    rw [show (5 : Int32) = nI 5 from rfl, show (19 : Int32) = nI 19 from rfl, sf_bits _ (by decide) (by decide) (by omega)]
    by_cases h3 : i - 2 < 19
    · have h4 : ¬ 21 ≤ i := by omega
      have h5 : i - 2 < 64 := by omega
      simp [h3, h4, h5, hi]
    · have h4 : 21 ≤ i := by omega
      have h5 : 2 ≤ i := by omega
      have h6 : ¬ i < 2 := by omega
      simp [h3, h4, h5, h6, hi]
  rw [hx, Option.bind_some]
  generalize j_lshl (F_X1_signedField (m_ins τ) 5 19) 2 ||| (nI (fN (iU (m_ins τ)) 29 2)).toInt64 = k
  unfold F_X5_place_c19 F_X5_place_c51 F_X5_place_c68 F_X8_pc
  rw [oL_31, show (33 : Int32).toNatClampNeg = 33 from rfl, xP_33, show (2 : Int32).toNatClampNeg = 2 from rfl, h.2.2, gL_0_5]
  rw [show (if 0 ≤ m_ins τ then (true, F_X8_putRegister (xm τ pc t0) (nI (fN (iU (m_ins τ)) 0 5)) (pc + k)) else (true, F_X8_putRegister (xm τ pc t0) (nI (fN (iU (m_ins τ)) 0 5)) ((pc &&& -4096) + j_lshl k 12))) = (true, F_X8_putRegister (xm τ pc t0) (nI (fN (iU (m_ins τ)) 0 5)) (if wb τ = true then (pc &&& -4096) + j_lshl k 12 else pc + k)) from pos_wb τ (fun b => (true, F_X8_putRegister (xm τ pc t0) (nI (fN (iU (m_ins τ)) 0 5)) (if b = true then (pc &&& -4096) + j_lshl k 12 else pc + k)))]
  unfold wb
  cases (iU (m_ins τ)).testBit 31
  · rw [iff_f, iff_f]
    obtain ⟨τ', a1, a2, a3⟩ := tailR t0 h.ok' (pc + k)
    rw [a3]
    exact Res.of ⟨τ', a1, a2, rfl⟩
  · rw [iff_t, iff_t]
    have e : 4096 * k = j_lshl k 12 := by
      rw [show (12 : Int32) = nI 12 from rfl, shl_mul _ (by decide), Int64.mul_comm]
      rfl
    rw [e]
    obtain ⟨τ', a1, a2, a3⟩ := tailR t0 h.ok' ((pc &&& -4096) + j_lshl k 12)
    rw [a3]
    exact Res.of ⟨τ', a1, a2, rfl⟩
