theorem xgoes (τ : MS) (pc : Int64) (t0 : Int32) (a : Int64) : F_X8_goTo (xm τ pc t0) a = xm (F_X12_goes τ a) pc t0 := by
  unfold F_X8_goTo F_X12_goes
  rw [show (2 : Int32).toNatClampNeg = 2 from rfl]
  show (cOf (m_mem τ), vp_updL (pOf τ) 33 pc, m_asked τ, a, t0 + m_taken τ, m_ins τ) = (cOf (m_mem τ), vp_updL (pOf (mu_state τ (vp_updL (m_state τ) 2 a))) 33 pc, m_asked τ, vp_updL (m_state τ) 2 a 2, t0 + m_taken τ, m_ins τ)
  rw [pOf_st τ (by decide), show (31 + 2 : Nat) = 33 from rfl, updL_over]
  simp [vp_updL]
theorem Ok'_goes {τ : MS} (hI : Inv τ) (a pc : Int64) : Ok' (F_X12_goes τ a) pc := ⟨hI, fun h => by cases h⟩
theorem xjump (τ : MS) (pc : Int64) (t0 : Int32) (b : Bool) (k : Int64) : F_X2_jump (xm τ pc t0) b k = (true, xm (if b = true then F_X12_goes τ (pc + 4 * k) else τ) pc t0) := by
  unfold F_X2_jump F_X2_jump_c24 F_X8_pc
  rw [show (33 : Int32).toNatClampNeg = 33 from rfl, xP_33, xgoes]
  cases b <;> rfl
theorem st2 {τ : MS} {pc : Int64} (h : Ok τ pc) : m_state τ (2 : Int32).toNatClampNeg = pc := h.2.2
theorem i_branch {τ : MS} {pc : Int64} (t0 : Int32) (h : Ok τ pc) : Res (F_X12_branch τ) (F_X2_branch (xm τ pc t0) (m_ins τ)) τ pc t0 := by
  unfold F_X12_branch F_X2_branch F_X2_branch_c24 F_X2_branch_c36 F_X12_branch_c45 F_X8_pc
  rw [sL_25_0, Option.bind_some, oL_31, st2 h, show (33 : Int32).toNatClampNeg = 33 from rfl, xP_33, show (30 : Int32) = nI 30 from rfl, xputR τ pc t0 (by decide), xjump, xjump, iff_t, iff_t]
  rw [show (if 0 ≤ m_ins τ then (true, xm (F_X12_goes τ (pc + 4 * F_X1_signedField (m_ins τ) 0 26)) pc t0) else (true, xm (F_X12_goes (putR τ 30 (pc + 4)) (pc + 4 * F_X1_signedField (m_ins τ) 0 26)) pc t0)) = (true, xm (F_X12_goes (if wb τ = true then putR τ 30 (pc + 4) else τ) (pc + 4 * F_X1_signedField (m_ins τ) 0 26)) pc t0) from pos_wb τ (fun b => (true, xm (F_X12_goes (if b = true then putR τ 30 (pc + 4) else τ) (pc + 4 * F_X1_signedField (m_ins τ) 0 26)) pc t0))]
  unfold wb
  cases (iU (m_ins τ)).testBit 31
  · rw [iff_f, iff_f]
    exact Res.of ⟨_, rfl, Ok'_goes h.1 _ _, rfl⟩
  · rw [iff_t, iff_t]
    exact Res.of ⟨_, rfl, Ok'_goes (τ := putR τ 30 (pc + 4)) h.1 _ _, rfl⟩
theorem x_when {τ : MS} {pc : Int64} (t0 : Int32) (h : Ok τ pc) (h4 : (iU (m_ins τ)).testBit 4 = false) : F_X2_when (xm τ pc t0) (m_ins τ) = (true, xm (if F_X12_holds τ (nI (fN (iU (m_ins τ)) 0 4)) = true then F_X12_goes τ (pc + 4 * F_X1_signedField (m_ins τ) 5 19) else τ) pc t0) := by
  unfold F_X2_when F_X2_when_c34
  rw [pL_4, h4, iff_f, gL_0_4, xjump, holds_eq h.1 pc t0 (fN_lt _ 0 4)]
theorem i_zero {τ : MS} {pc : Int64} (t0 : Int32) (h : Ok τ pc) : Res (F_X12_zero τ) (F_X2_zero (xm τ pc t0) (m_ins τ)) τ pc t0 := by
  unfold F_X12_zero F_X2_zero
  rw [fL_4_0, Option.bind_some, mreg _ (fN_lt _ _ _), Option.bind_some, width_wd, cut_eq, gL_0_5, xreg _ _ _ (fN_lt _ _ _)]
  rw [show (if 0 ≤ m_ins τ then F_X2_zero_c22 (xm τ pc t0) (m_ins τ) (rg τ (fN (iU (m_ins τ)) 0 5)) false else F_X2_zero_c22 (xm τ pc t0) (m_ins τ) (rg τ (fN (iU (m_ins τ)) 0 5)) true) = F_X2_zero_c22 (xm τ pc t0) (m_ins τ) (rg τ (fN (iU (m_ins τ)) 0 5)) (wb τ) from pos_wb τ (fun b => F_X2_zero_c22 (xm τ pc t0) (m_ins τ) (rg τ (fN (iU (m_ins τ)) 0 5)) b)]
  unfold F_X2_zero_c22
  have fin : ∀ s : Bool, Res (F_X12_zero_c27 τ s) (F_X2_zero_c35 (xm τ pc t0) (m_ins τ) s) τ pc t0 := by
    intro s
    unfold F_X12_zero_c27 F_X2_zero_c35 F_X2_zero_c52 F_X2_zero_c62
    rw [oL_24, pL_24, xjump, xjump, iff_t, iff_f, sL_23_5, Option.bind_some, st2 h]
    by_cases hs : s = (iU (m_ins τ)).testBit 24
    · rw [if_pos hs, if_pos hs]
      exact Res.of ⟨τ, rfl, h.ok', rfl⟩
    · rw [if_neg hs, if_neg hs]
      exact Res.of ⟨_, rfl, Ok'_goes h.1 _ _, rfl⟩
  by_cases hz : F_X1_narrow (rg τ (fN (iU (m_ins τ)) 0 5)) (wb τ) = 0
  · rw [if_pos hz, if_pos hz]; exact fin true
  · rw [if_neg hz, if_neg hz]; exact fin false
theorem bitplace : ∀ b : Bool, ∀ p, p < 32 → (nI b.toNat <<< ((5 : Int32) &&& 31)) ||| nI p = nI (32 * b.toNat + p) := by decide
theorem fN_1 (w p : Nat) : fN w p 1 = (w.testBit p).toNat := by
  unfold fN
  rw [Nat.pow_one, tb1]
theorem i_bit {τ : MS} {pc : Int64} (t0 : Int32) (h : Ok τ pc) : Res (F_X12_byBit τ) (F_X2_bit (xm τ pc t0) (m_ins τ)) τ pc t0 := by
  have hp := fN_lt (iU (m_ins τ)) 19 5
  unfold F_X12_byBit F_X2_bit
  rw [fL_23_19, Option.bind_some, oL_31, gL_0_5, xreg _ _ _ (fN_lt _ _ _), gL_31_1, fN_1, gL_19_5, bitplace _ _ hp]
  have hk : 32 * ((iU (m_ins τ)).testBit 31).toNat + fN (iU (m_ins τ)) 19 5 < 64 := by
    cases (iU (m_ins τ)).testBit 31
    · show 32 * 0 + _ < 64; omega
    · show 32 * 1 + _ < 64; omega
  have eM : (if (iU (m_ins τ)).testBit 31 = true then F_X12_byBit_c21 τ (nI (fN (iU (m_ins τ)) 19 5) + 32) else F_X12_byBit_c21 τ (nI (fN (iU (m_ins τ)) 19 5))) = F_X12_byBit_c21 τ (nI (32 * ((iU (m_ins τ)).testBit 31).toNat + fN (iU (m_ins τ)) 19 5)) := by
    cases (iU (m_ins τ)).testBit 31
    · rw [iff_f]; simp
    · rw [iff_t, show (32 : Int32) = nI 32 from rfl, nI_add, Nat.add_comm]; rfl
  rw [eM]
  generalize 32 * ((iU (m_ins τ)).testBit 31).toNat + fN (iU (m_ins τ)) 19 5 = k at hk
  unfold F_X12_byBit_c21
  rw [fL_4_0, Option.bind_some, mreg _ (fN_lt _ _ _), Option.bind_some, bit_eq _ hk, lU_ushr1 _ hk, oL_24, sL_18_5, Option.bind_some, st2 h]
  unfold F_X2_bit_c45 F_X2_bit_c62 F_X2_bit_c72
  rw [pL_24, xjump, xjump, iff_t, iff_f]
  have r1 : Res (some (F_X12_goes τ (pc + 4 * F_X1_signedField (m_ins τ) 5 14))) (true, xm (F_X12_goes τ (pc + 4 * F_X1_signedField (m_ins τ) 5 14)) pc t0) τ pc t0 := Res.of ⟨_, rfl, Ok'_goes h.1 _ _, rfl⟩
  have r2 : Res (some τ) (true, xm τ pc t0) τ pc t0 := Res.of ⟨τ, rfl, h.ok', rfl⟩
  cases lb (rg τ (fN (iU (m_ins τ)) 0 5)) k <;> cases (iU (m_ins τ)).testBit 24
  · exact r1
  · exact r2
  · exact r2
  · exact r1
theorem top23 {x : Int32} {n c : Nat} (h : fN (iU x) n (32 - n) = c) (hn : n < 32) : j_iushr x (nI n) = nI c := by
  apply iU_inj
  have h1 := iU_lt x
  rw [iU_ushr hn, iU_nI, ← h]
  unfold fN
  have h2 : iU x / 2 ^ n < 2 ^ (32 - n) := by
    rw [Nat.div_lt_iff_lt_mul (Nat.pos_of_ne_zero (by simp)), ← Nat.pow_add]
    rwa [show 32 - n + n = 32 from by omega]
  rw [Nat.mod_eq_of_lt h2, Nat.mod_eq_of_lt]
  exact Nat.lt_of_lt_of_le h2 (Nat.pow_le_pow_right (by decide) (by omega))
theorem i_toReg {τ : MS} {pc : Int64} (t0 : Int32) (h : Ok τ pc) (h1 : fN (iU (m_ins τ)) 23 9 = 428) (h2 : fN (iU (m_ins τ)) 10 11 = 1984) (h3 : fN (iU (m_ins τ)) 0 5 = 0) : Res (F_X12_toRegister τ) (F_X2_toRegister (xm τ pc t0) (m_ins τ)) τ pc t0 := by
  have hk := fN_lt (iU (m_ins τ)) 21 2
  unfold F_X12_toRegister F_X2_toRegister F_X2_toRegister_c8 F_X2_toRegister_c68 F_X2_toRegister_c93 F_X12_toRegister_c58 F_X8_pc
  rw [gL_21_2, show (23 : Int32) = nI 23 from rfl, top23 (c := 428) h1 (by decide), if_pos (show nI 428 = (428 : Int32) from rfl), gL_10_11, h2, if_pos (show nI 1984 = (1984 : Int32) from rfl), gL_0_5, h3, if_pos (show nI 0 = (0 : Int32) from rfl), fL_22_21, Option.bind_some, gL_5_5, xreg _ _ _ (fN_lt _ _ _), xgoes, fL_9_5, Option.bind_some, mreg _ (fN_lt _ _ _), Option.bind_some, Option.bind_some, show (33 : Int32).toNatClampNeg = 33 from rfl, xP_33, show (30 : Int32) = nI 30 from rfl, xputR _ pc t0 (by decide), st2 h]
  by_cases q3 : fN (iU (m_ins τ)) 21 2 = 3
  · have q := (eqN (k := fN (iU (m_ins τ)) 21 2) (n := 3) (by omega) (by omega)).mpr q3
    rw [if_pos (show nI (fN (iU (m_ins τ)) 21 2) = (3 : Int32) from q), if_pos (show nI (fN (iU (m_ins τ)) 21 2) = (3 : Int32) from q)]
    exact Res.none h rfl rfl
  · have q : ¬ nI (fN (iU (m_ins τ)) 21 2) = (3 : Int32) := fun q => q3 ((eqN (k := fN (iU (m_ins τ)) 21 2) (n := 3) (by omega) (by omega)).mp q)
    rw [if_neg q, if_neg q]
    by_cases q1 : nI (fN (iU (m_ins τ)) 21 2) = (1 : Int32)
    · rw [if_pos q1, if_pos q1]
      exact Res.of ⟨_, rfl, Ok'_goes (τ := mu_x τ _) h.1 _ _, rfl⟩
    · rw [if_neg q1, if_neg q1]
      exact Res.of ⟨_, rfl, Ok'_goes h.1 _ _, rfl⟩
