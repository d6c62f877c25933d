theorem lU_add (x y : Int64) : lU (x + y) = (lU x + lU y) % 2 ^ 64 := by
  show (x.toBitVec + y.toBitVec).toNat = _
  rw [BitVec.toNat_add]; rfl
theorem lU_mul (x y : Int64) : lU (x * y) = (lU x * lU y) % 2 ^ 64 := by
  show (x.toBitVec * y.toBitVec).toNat = _
  rw [BitVec.toNat_mul]; rfl
theorem lU_sub (x y : Int64) : lU (x - y) = (2 ^ 64 - lU y + lU x) % 2 ^ 64 := by
  show (x.toBitVec - y.toBitVec).toNat = _
  rw [BitVec.toNat_sub]; rfl
theorem lU_neg (x : Int64) : lU (-x) = (2 ^ 64 - lU x) % 2 ^ 64 := by
  show (-x.toBitVec).toNat = _
  rw [BitVec.toNat_neg]; rfl
theorem lU_narrow (x : Int64) (b : Bool) : lU (F_X1_narrow x b) = lU x % 2 ^ wd b := by
  apply Nat.eq_of_testBit_eq
  intro i
  rw [← lb_tb, Nat.testBit_mod_two_pow, ← lb_tb]
  by_cases hi : i < 64
  · exact lb_narrow x b hi
  · rw [lb_big _ (by omega), lb_big _ (by omega)]; simp
theorem narrow_add1 (x y : Int64) (b : Bool) : F_X1_narrow (F_X1_narrow x b + y) b = F_X1_narrow (x + y) b := by
  apply lU_inj
  rw [lU_narrow, lU_narrow, lU_add, lU_add, lU_narrow]
  cases b
  · show (lU x % 2 ^ 32 + lU y) % 2 ^ 64 % 2 ^ 32 = (lU x + lU y) % 2 ^ 64 % 2 ^ 32
    omega
  · show (lU x % 2 ^ 64 + lU y) % 2 ^ 64 % 2 ^ 64 = (lU x + lU y) % 2 ^ 64 % 2 ^ 64
    omega
theorem narrow_small {n : Nat} (h : n < 2 ^ 32) (b : Bool) : F_X1_narrow (lN n) b = lN n := by
  apply lU_inj
  rw [lU_narrow, lU_lN, Nat.mod_eq_of_lt (a := n) (b := 2 ^ 64) (by omega)]
  cases b
  · exact Nat.mod_eq_of_lt h
  · exact Nat.mod_eq_of_lt (show n < 2 ^ 64 by omega)
theorem lU_shlG (x : Int64) {n : Nat} (hn : n < 64) : lU (j_lshl x (nI n)) = lU x * 2 ^ n % 2 ^ 64 := by
  apply Nat.eq_of_testBit_eq
  intro i
  rw [← lb_tb, Nat.testBit_mod_two_pow, Nat.mul_comm, Nat.testBit_two_pow_mul, ← lb_tb]
  by_cases hi : i < 64
  · rw [lb_shl _ _ hi, s6_nI hn]; simp [hi]
  · rw [lb_big _ (by omega)]; simp [hi]
theorem lU_ushrG (x : Int64) {n : Nat} (hn : n < 64) : lU (j_lushr x (nI n)) = lU x / 2 ^ n := by
  apply Nat.eq_of_testBit_eq
  intro i
  rw [← lb_tb, Nat.testBit_div_two_pow, lb_ushr, s6_nI hn, lb_tb, Nat.add_comm]
theorem shl_mul (x : Int64) {n : Nat} (hn : n < 64) : j_lshl x (nI n) = x * lN (2 ^ n) := by
  apply lU_inj
  rw [lU_shlG x hn, lU_mul, lU_lN]
  have : 2 ^ n < 2 ^ 64 := Nat.pow_lt_pow_right (by decide) hn
  rw [Nat.mod_eq_of_lt this]
theorem xor_m1 (x : Int64) {i : Nat} (hi : i < 64) : lb (x ^^^ (-1)) i = !lb x i := by
  rw [lb_xor, lb_m1 hi]; simp
theorem holds_eq {τ : MS} (hI : Inv τ) (pc : Int64) (t0 : Int32) {c : Nat} (hc : c < 16) : F_X12_holds τ (nI c) = F_X8_meets (xm τ pc t0) (nI c) := by
  obtain ⟨⟨f, hf, h⟩, -⟩ := hI
  have hx := xP_42 τ pc t0
  simp only [F_X12_holds, F_X12_holds_c15, F_X12_holds_c30, F_X12_holds_c45, F_X12_holds_c61, F_X12_holds_c68, F_X12_holds_c79, F_X12_holds_c89, F_X12_holds_c98, F_X12_holds_c108, F_X12_holds_c127, F_X12_holds_c128, F_X12_holds_c130, F_X12_holds_c147, F_X12_holds_c149, F_X12_holds_c170, F_X12_holds_c171, F_X12_holds_c173, F_X12_holds_c195]
  simp only [F_X8_meets, F_X8_meets_c21, F_X8_meets_c43, F_X8_meets_c65, F_X8_meets_c86, F_X8_meets_c99, F_X8_meets_c259, F_X8_meets_c260, F_X8_meets_c234, F_X8_meets_c211, F_X8_meets_c212]
  rw [show (42 : Int32).toNatClampNeg = 42 from rfl, hx, h]
  clear hx h
  revert c
  revert f
  decide +kernel
theorem nI_mul12 {v : Nat} (h : v < 2 ^ 12) : (nI v).toInt64 * 4096 = lN (v * 2 ^ 12) ∧ j_lshl (nI v).toInt64 12 = lN (v * 2 ^ 12) := by
  rw [nI_toL (by omega)]
  constructor
  · rw [show (4096 : Int64) = lN (2 ^ 12) from rfl, lN_mul]
  · exact lU_shl (n := 12) (by decide) (by omega)
theorem shl_zero (x : Int64) : j_lshl x 0 = x := by
  apply lU_inj
  rw [show (0 : Int32) = nI 0 from rfl, lU_shlG _ (by decide)]
  have := lU_lt x
  omega
theorem i_number {τ : MS} {pc : Int64} (t0 : Int32) (h : Ok τ pc) (h23 : (iU (m_ins τ)).testBit 23 = false) : Res (F_X12_number τ) (F_X5_number (xm τ pc t0) (m_ins τ)) τ pc t0 := by
  have hv := fN_lt (iU (m_ins τ)) 10 12
  -- the number, on both sides
  obtain ⟨n, hn, hnX, hnM⟩ : ∃ n, n < 2 ^ 32 ∧ F_X5_number_c18 (xm τ pc t0) (m_ins τ) ((iU (m_ins τ)).testBit 29) = F_X5_number_c81 (xm τ pc t0) (m_ins τ) ((iU (m_ins τ)).testBit 29) (rp τ (fN (iU (m_ins τ)) 5 5)) (lN n) ((iU (m_ins τ)).testBit 30) (wb τ) ∧ F_X12_number_c5 τ (nI (wd (wb τ))) = F_X12_number_c30 τ (nI (wd (wb τ))) (lN n) := by
    have hX : ∀ s0 s1, F_X5_number_c56 (xm τ pc t0) (m_ins τ) ((iU (m_ins τ)).testBit 29) (rp τ (fN (iU (m_ins τ)) 5 5)) s0 s1 = F_X5_number_c81 (xm τ pc t0) (m_ins τ) ((iU (m_ins τ)).testBit 29) (rp τ (fN (iU (m_ins τ)) 5 5)) (j_lshl s0 s1) ((iU (m_ins τ)).testBit 30) (wb τ) := by
      intro s0 s1
      unfold F_X5_number_c56
      rw [pL_30]
      exact pos_wb τ (fun b => F_X5_number_c81 (xm τ pc t0) (m_ins τ) ((iU (m_ins τ)).testBit 29) (rp τ (fN (iU (m_ins τ)) 5 5)) (j_lshl s0 s1) ((iU (m_ins τ)).testBit 30) b)
    unfold F_X5_number_c18 F_X12_number_c5
    rw [pL_22, gL_5_5, xregP h.1 _ _ (fN_lt _ _ _), gL_10_12, fL_21_10, Option.bind_some, oL_22, hX, hX]
    cases (iU (m_ins τ)).testBit 22
    · refine ⟨fN (iU (m_ins τ)) 10 12, by omega, ?_, ?_⟩
      · rw [iff_f, shl_zero, nI_toL (by omega)]
      · rw [iff_f, nI_toL (by omega)]
    · refine ⟨fN (iU (m_ins τ)) 10 12 * 2 ^ 12, by omega, ?_, ?_⟩
      · rw [iff_t, (nI_mul12 hv).2]
      · rw [iff_t, (nI_mul12 hv).1]
  unfold F_X12_number F_X5_number
  rw [pL_23, h23, iff_f, pL_29, hnX, width_wd, hnM]
  unfold F_X12_number_c30 F_X5_number_c81
  rw [fL_9_5, Option.bind_some, mregP h.1 (fN_lt _ _ _), Option.bind_some, cut_eq]
  rw [xsum_eq]
  generalize F_X1_narrow (rp τ (fN (iU (m_ins τ)) 5 5)) (wb τ) = a
  unfold F_X12_number_c47
  rw [oL_30]
  have fin : ∀ (c : Bool) (b' : Int64), Res (F_X12_number_c92 (sc τ (nI (cyb a b' c (wd (wb τ))).toNat) (nI (cyb a b' c (wd (wb τ))).toNat ^^^ nI (cyb a b' c (wd (wb τ) - 1)).toNat)) (nI (wd (wb τ))) (F_X1_narrow (a + b' + lN c.toNat) (wb τ))) (F_X5_number_c87 (xm (if (iU (m_ins τ)).testBit 29 = true then mu_flags τ (nI (flg a b' c (wb τ))) else τ) pc t0) (m_ins τ) ((iU (m_ins τ)).testBit 29) (F_X1_narrow (a + b' + lN c.toNat) (wb τ))) τ pc t0 := by
    intro c b'
    obtain ⟨τ1, e1, o1, x1, i1⟩ := flagged h a b' c ((iU (m_ins τ)).testBit 29)
    rw [x1]
    unfold F_X12_number_c92 F_X5_number_c87 F_X5_number_c106 F_X5_number_c124
    rw [oL_29, gL_0_5, ← i1]
    show Res (if (iU (m_ins τ)).testBit 29 = true then _ else _) _ _ _ _
    rw [← i1] at e1
    revert e1
    show _ → Res (if (iU (m_ins τ)).testBit 29 = true then _ else _) _ _ _ _
    rw [← i1]
    cases (iU (m_ins τ1)).testBit 29
    · rw [iff_f, iff_f, iff_f]
      intro e1
      rw [e1]
      obtain ⟨τ', h1, h2, h3⟩ := tailP t0 o1 (F_X1_narrow (a + b' + lN c.toNat) (wb τ))
      rw [h3]
      exact Res.of ⟨τ', h1, h2, rfl⟩
    · rw [iff_t, iff_t, iff_t]
      intro e1
      obtain ⟨τ', h1, h2, h3⟩ := tailR t0 o1 (F_X1_narrow (a + b' + lN c.toNat) (wb τ))
      rw [h3]
      refine Res.of ⟨τ', ?_, h2, rfl⟩
      rw [← h1, ← e1]
      rfl
  cases hm : (iU (m_ins τ)).testBit 30
  · rw [iff_f, show (0 : Int32) = nI false.toNat from rfl, sum_eq, Option.bind_some, iff_f, narrow_small hn]
    exact fin false _
  · rw [iff_t, show (1 : Int32) = nI true.toNat from rfl, cut_eq, sum_eq, Option.bind_some, iff_t]
    exact fin true _
