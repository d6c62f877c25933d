theorem narrow_joined (o : Int32) {a b : Int64} {w : Bool} (τ : MS) (ha : F_X1_narrow a w = a) : F_X1_narrow (if o = 1 then a ||| b else if o = 2 then a ^^^ b else a &&& b) w = F_X12_joined τ o a (F_X1_narrow b w) := by
  unfold F_X12_joined
  have hb : ∀ i, i < 64 → lb a i = (decide (i < wd w) && lb a i) := by
    intro i hi
    rw [← lb_narrow _ _ hi, ha]
  by_cases h1 : o = 1
  · rw [if_pos h1, if_pos h1]
    apply l_ext
    intro i hi
    rw [lb_narrow _ _ hi, lb_or, lb_or, lb_narrow _ _ hi, hb i hi]
    cases decide (i < wd w) <;> simp
  · rw [if_neg h1, if_neg h1]
    by_cases h2 : o = 2
    · rw [if_pos h2, if_pos h2]
      apply l_ext
      intro i hi
      rw [lb_narrow _ _ hi, lb_xor, lb_xor, lb_narrow _ _ hi, hb i hi]
      cases decide (i < wd w) <;> simp
    · rw [if_neg h2, if_neg h2]
      apply l_ext
      intro i hi
      rw [lb_narrow _ _ hi, lb_and, lb_and, lb_narrow _ _ hi]
      cases decide (i < wd w) <;> simp
theorem joined_ns (τ τ' : MS) (o : Int32) (a b : Int64) : F_X12_joined τ o a b = F_X12_joined τ' o a b := rfl
/-- what a logic instruction does behind its two numbers: flags for o 3 -/
theorem xlogic_eq (τ : MS) (pc : Int64) (t0 : Int32) {o : Nat} (ho : o < 4) {a b : Int64} {w : Bool} (ha : F_X1_narrow a w = a) : F_X9_logic (xm τ pc t0) a b (nI o) w = (F_X12_joined τ (nI o) a (F_X1_narrow b w), xm (if o = 3 then mu_flags τ (nI (fl4 (lb (F_X12_joined τ (nI o) a (F_X1_narrow b w)) (wd w - 1)) (decide (F_X12_joined τ (nI o) a (F_X1_narrow b w) = 0)) false false)) else τ) pc t0) := by
  have key : ∀ r, F_X9_logic_c39 (xm τ pc t0) a b (nI o) w r = (r, xm (if o = 3 then mu_flags τ (nI (fl4 (lb r (wd w - 1)) (decide (r = 0)) false false)) else τ) pc t0) := by
    intro r
    unfold F_X9_logic_c39 F_X9_logic_c61
    rw [show (3 : Int32) = nI 3 from rfl]
    by_cases h3 : o = 3
    · rw [if_pos ((eqN (by omega) (by omega)).mpr h3), if_pos h3, saz_eq, xset_flags τ pc t0 (fl4_x0 _ _)]
    · rw [if_neg (fun q => h3 ((eqN (by omega) (by omega)).mp q)), if_neg h3]
  have e := narrow_joined (nI o) (b := b) τ ha
  unfold F_X9_logic F_X9_logic_c30
  rw [key, key, key]
  rw [← e]
  by_cases h1 : nI o = 1
  · rw [if_pos h1, if_pos h1]
  · rw [if_neg h1, if_neg h1]
    by_cases h2 : nI o = 2
    · rw [if_pos h2, if_pos h2]
    · rw [if_neg h2, if_neg h2]
theorem signs0 (τ : MS) (r : Int64) (w : Bool) : F_X12_signs τ r (nI (wd w)) 0 0 = mu_flags τ (nI (fl4 (lb r (wd w - 1)) (decide (r = 0)) false false)) := signs_eq τ r w false false
theorem i_logic {τ : MS} {pc : Int64} (t0 : Int32) (h : Ok τ pc) : Res (F_X12_logic τ) (F_X7_logic (xm τ pc t0) (m_ins τ)) τ pc t0 := by
  have hk := fN_lt (iU (m_ins τ)) 22 2
  have hc := fN_lt (iU (m_ins τ)) 10 6
  have ho := fN_lt (iU (m_ins τ)) 29 2
  have eX : F_X7_logic (xm τ pc t0) (m_ins τ) = F_X7_logic_c19 (xm τ pc t0) (m_ins τ) (wb τ) (nI (fN (iU (m_ins τ)) 10 6)) := by
    unfold F_X7_logic F_X7_logic_c9
    rw [gL_10_6]
    exact pos_wb τ (fun b => F_X7_logic_c19 (xm τ pc t0) (m_ins τ) b (nI (fN (iU (m_ins τ)) 10 6)))
  unfold F_X12_logic F_X12_logic_c5
  rw [eX, width_wd, fL_15_10, Option.bind_some]
  unfold F_X7_logic_c19
  rw [xwidth]
  by_cases h4 : fN (iU (m_ins τ)) 10 6 < wd (wb τ)
  · have q := (lt_wd (by omega) (wb τ)).mpr h4
    rw [if_pos q, if_pos q, fL_20_16, Option.bind_some, mreg _ (fN_lt _ _ _), Option.bind_some, fL_23_22, Option.bind_some, Option.bind_some, cut_eq, mmoved_eq hk h4 (narrow_hi _ _), Option.bind_some, xright, gL_22_2, oL_21]
    unfold F_X7_logic_c48
    rw [pL_21]
    generalize hb : F_X1_moved (F_X1_narrow (rg τ (fN (iU (m_ins τ)) 16 5)) (wb τ)) (nI (fN (iU (m_ins τ)) 22 2)) (nI (fN (iU (m_ins τ)) 10 6)) (wb τ) = b
    have hb2 : F_X1_narrow b (wb τ) = b := by rw [← hb]; exact moved_hi hk h4 (narrow_hi _ _)
    have fin : ∀ b', Res (F_X12_logic_c78 τ (nI (wd (wb τ))) (F_X1_narrow b' (wb τ))) (F_X7_logic_c65 (xm τ pc t0) (m_ins τ) (wb τ) b') τ pc t0 := by
      intro b'
      unfold F_X12_logic_c78 F_X7_logic_c65
      rw [fL_30_29, Option.bind_some, fL_9_5, Option.bind_some, mreg _ (fN_lt _ _ _), Option.bind_some, cut_eq, xleft, gL_29_2, xlogic_eq τ pc t0 ho (narrow_idem _ _)]
      generalize hr : F_X12_joined τ (nI (fN (iU (m_ins τ)) 29 2)) (F_X1_narrow (rg τ (fN (iU (m_ins τ)) 5 5)) (wb τ)) (F_X1_narrow b' (wb τ)) = r
      have hr2 : F_X1_narrow r (wb τ) = r := by
        rw [← hr, ← narrow_joined _ (b := b') τ (narrow_idem _ _), narrow_idem]
      unfold F_X12_logic_c108 F_X7_logic_c89
      rw [fL_30_29, Option.bind_some, show (3 : Int32) = nI 3 from rfl]
      by_cases h3 : fN (iU (m_ins τ)) 29 2 = 3
      · rw [if_pos ((eqN (by omega) (by omega)).mpr h3), if_pos h3, signs0]
        unfold F_X12_logic_c129
        exact Res.of (tail7 (τ := mu_flags τ _) t0 ⟨Inv_flags h.1 (fl4_lt _ _ _ _), fun _ => h.2.2⟩ hr2)
      · rw [if_neg (fun q => h3 ((eqN (by omega) (by omega)).mp q)), if_neg h3]
        unfold F_X12_logic_c129
        exact Res.of (tail7 t0 h.ok' hr2)
    cases (iU (m_ins τ)).testBit 21
    · rw [iff_f, iff_f]
      have := fin b
      rw [hb2] at this
      exact this
    · rw [iff_t, iff_t, cut_eq]
      exact fin _
  · have q := fun q => h4 ((lt_wd (by omega) (wb τ)).mp q)
    rw [if_neg q, if_neg q]
    exact Res.none h rfl rfl
theorem i_choose {τ : MS} {pc : Int64} (t0 : Int32) (h : Ok τ pc) (h29 : (iU (m_ins τ)).testBit 29 = false) (h11 : (iU (m_ins τ)).testBit 11 = false) : Res (F_X12_choose τ) (F_X7_choose (xm τ pc t0) (m_ins τ)) τ pc t0 := by
  unfold F_X12_choose F_X12_choose_c5 F_X12_choose_c21 F_X7_choose
  rw [pL_29, h29, iff_f, pL_11, h11, iff_f, gL_12_4, width_wd, fL_9_5, Option.bind_some, mreg _ (fN_lt _ _ _), Option.bind_some, fL_15_12, Option.bind_some, holds_eq h.1 pc t0 (fN_lt _ 12 4), xleft, xright, cut_eq]
  cases F_X8_meets (xm τ pc t0) (nI (fN (iU (m_ins τ)) 12 4))
  · rw [iff_f, iff_f, fL_20_16, Option.bind_some, mreg _ (fN_lt _ _ _), Option.bind_some, cut_eq]
    unfold F_X12_choose_c53 F_X7_choose_c54
    rw [oL_30, pL_30]
    have fin : ∀ x, Res (F_X12_choose_c72 τ (nI (wd (wb τ))) (F_X1_narrow x (wb τ))) (F_X7_choose_c69 (xm τ pc t0) (m_ins τ) x) τ pc t0 := by
      intro x
      unfold F_X12_choose_c72 F_X7_choose_c69 F_X7_choose_c84 F_X12_choose_c89
      rw [oL_10, gL_10_1]
      have e : nI (fN (iU (m_ins τ)) 10 1) = nI ((iU (m_ins τ)).testBit 10).toNat := by
        unfold fN
        rw [Nat.pow_one, tb1]
      rw [e, nIb_l]
      cases (iU (m_ins τ)).testBit 10
      · rw [iff_f]
        exact Res.of (tail7 t0 h.ok' (by rw [show lN false.toNat = 0 from rfl, add_0]))
      · rw [iff_t, cut_eq]
        exact Res.of (tail7 t0 h.ok' (by rw [show lN true.toNat = 1 from rfl, narrow_add1]))
    cases (iU (m_ins τ)).testBit 30
    · rw [iff_f, iff_f]
      have := fin (F_X1_narrow (rg τ (fN (iU (m_ins τ)) 16 5)) (wb τ))
      rw [narrow_idem] at this
      exact this
    · rw [iff_t, iff_t, cut_eq]
      exact fin _
  · rw [iff_t, iff_t]
    unfold F_X12_choose_c89
    exact Res.of (tail7 t0 h.ok' (narrow_idem _ _))
theorem and15 : ∀ f, f < 16 → (nI f).toInt64 &&& 15 = (nI f).toInt64 := by decide
theorem i_compare {τ : MS} {pc : Int64} (t0 : Int32) (h : Ok τ pc) (h29 : (iU (m_ins τ)).testBit 29 = true) (h10 : (iU (m_ins τ)).testBit 10 = false) (h4 : (iU (m_ins τ)).testBit 4 = false) : Res (F_X12_compare τ) (F_X7_compare (xm τ pc t0) (m_ins τ)) τ pc t0 := by
  unfold F_X12_compare F_X12_compare_c5 F_X7_compare
  rw [pL_29, h29, iff_t, pL_10, h10, iff_f, pL_4, h4, iff_f, gL_12_4, width_wd, fL_15_12, Option.bind_some, holds_eq h.1 pc t0 (fN_lt _ 12 4), xright, gL_16_5, pL_11, gL_0_4]
  cases F_X8_meets (xm τ pc t0) (nI (fN (iU (m_ins τ)) 12 4))
  · rw [iff_f, iff_f, fL_3_0, Option.bind_some, xset_flags τ pc t0 (and15 _ (fN_lt _ 0 4))]
    exact Res.of ⟨_, rfl, ⟨Inv_flags h.1 (fN_lt _ 0 4), fun _ => h.2.2⟩, rfl⟩
  · rw [iff_t, iff_t, fL_9_5, Option.bind_some, mreg _ (fN_lt _ _ _), Option.bind_some, cut_eq]
    unfold F_X12_compare_c47
    rw [fL_20_16, Option.bind_some, oL_11, Option.bind_some, mreg _ (fN_lt _ _ _), Option.bind_some, cut_eq]
    have eX : ∀ s0, F_X7_compare_c70 (xm τ pc t0) (m_ins τ) s0 = (true, (F_X9_sum (xm τ pc t0) (F_X1_narrow (rg τ (fN (iU (m_ins τ)) 5 5)) (wb τ)) s0 ((iU (m_ins τ)).testBit 30) (wb τ) true).2) := by
      intro s0
      unfold F_X7_compare_c70 F_X7_compare_c96
      rw [xleft, pL_30]
      exact pos_wb τ (fun b => (true, (F_X9_sum (xm τ pc t0) (F_X1_narrow (rg τ (fN (iU (m_ins τ)) 5 5)) (wb τ)) s0 ((iU (m_ins τ)).testBit 30) b true).2))
    rw [eX, eX]
    generalize ha : F_X1_narrow (rg τ (fN (iU (m_ins τ)) 5 5)) (wb τ) = a
    have ha2 : F_X1_narrow a (wb τ) = a := by rw [← ha, narrow_idem]
    have fin : ∀ s0, F_X1_narrow s0 (wb τ) = s0 → Res (F_X12_compare_c85 τ (nI (wd (wb τ))) a s0) (true, (F_X9_sum (xm τ pc t0) a s0 ((iU (m_ins τ)).testBit 30) (wb τ) true).2) τ pc t0 := by
      intro s0 hs0
      rw [xsum_eq, ha2]
      unfold F_X12_compare_c85
      rw [oL_30]
      have fin2 : ∀ (c : Bool) (b' : Int64), Res (F_X12_compare_c130 (sc τ (nI (cyb a b' c (wd (wb τ))).toNat) (nI (cyb a b' c (wd (wb τ))).toNat ^^^ nI (cyb a b' c (wd (wb τ) - 1)).toNat)) (nI (wd (wb τ))) (F_X1_narrow (a + b' + lN c.toNat) (wb τ))) (true, xm (if true = true then mu_flags τ (nI (flg a b' c (wb τ))) else τ) pc t0) τ pc t0 := by
        intro c b'
        obtain ⟨τ1, e1, o1, x1, i1⟩ := flagged h a b' c true
        rw [x1]
        rw [iff_t] at e1
        refine Res.of ⟨τ1, ?_, o1, rfl⟩
        rw [← e1]
        rfl
      cases (iU (m_ins τ)).testBit 30
      · rw [iff_f, show (0 : Int32) = nI false.toNat from rfl, sum_eq, Option.bind_some, iff_f, hs0]
        exact fin2 false _
      · rw [iff_t, show (1 : Int32) = nI true.toNat from rfl, cut_eq, sum_eq, Option.bind_some, iff_t]
        exact fin2 true _
    cases (iU (m_ins τ)).testBit 11
    · rw [iff_f, iff_f]
      exact fin _ (narrow_idem _ _)
    · rw [iff_t, iff_t]
      have hm := fN_lt (iU (m_ins τ)) 16 5
      refine fin _ ?_
      rw [nI_toL (by omega), narrow_small (by omega)]
theorem i_times {τ : MS} {pc : Int64} (t0 : Int32) (h : Ok τ pc) (hd : fN (iU (m_ins τ)) 21 10 = 216) : Res (F_X12_times τ) (F_X7_times (xm τ pc t0) (m_ins τ)) τ pc t0 := by
  unfold F_X12_times F_X12_times_c5 F_X7_times F_X7_times_c28 F_X7_times_c44 F_X7_times_c66
  rw [gL_21_10, hd, if_pos (show nI 216 = (216 : Int32) from rfl), width_wd, fL_9_5, Option.bind_some, mreg _ (fN_lt _ _ _), Option.bind_some, fL_20_16, Option.bind_some, mreg _ (fN_lt _ _ _), Option.bind_some, fL_14_10, Option.bind_some, mreg _ (fN_lt _ _ _), Option.bind_some, oL_15, pL_15, gL_10_5, xreg _ _ _ (fN_lt _ _ _), xleft, xright, cut_eq, cut_eq]
  generalize rg τ (fN (iU (m_ins τ)) 5 5) = a
  generalize rg τ (fN (iU (m_ins τ)) 16 5) = b
  generalize rg τ (fN (iU (m_ins τ)) 10 5) = s
  have e1 : lU (F_X1_narrow a (wb τ) * F_X1_narrow b (wb τ)) % 2 ^ wd (wb τ) = lU (a * b) % 2 ^ wd (wb τ) := by
    rw [lU_mul, lU_mul, lU_narrow, lU_narrow]
    cases wb τ
    · show (lU a % 2 ^ 32 * (lU b % 2 ^ 32)) % 2 ^ 64 % 2 ^ 32 = (lU a * lU b) % 2 ^ 64 % 2 ^ 32
      rw [Nat.mod_mod_of_dvd _ (by decide), Nat.mod_mod_of_dvd _ (by decide), ← Nat.mul_mod]
    · show (lU a % 2 ^ 64 * (lU b % 2 ^ 64)) % 2 ^ 64 % 2 ^ 64 = (lU a * lU b) % 2 ^ 64 % 2 ^ 64
      rw [← Nat.mul_mod]
  cases (iU (m_ins τ)).testBit 15
  · rw [iff_f, iff_f]
    refine Res.of (tail7 t0 h.ok' ?_)
    apply lU_inj
    rw [lU_narrow, lU_narrow, lU_add, lU_add]
    revert e1
    generalize lU (F_X1_narrow a (wb τ) * F_X1_narrow b (wb τ)) = p1
    generalize lU (a * b) = p2
    cases wb τ
    · show p1 % 2 ^ 32 = p2 % 2 ^ 32 → (lU s + p1) % 2 ^ 64 % 2 ^ 32 = (lU s + p2) % 2 ^ 64 % 2 ^ 32
      omega
    · show p1 % 2 ^ 64 = p2 % 2 ^ 64 → (lU s + p1) % 2 ^ 64 % 2 ^ 64 = (lU s + p2) % 2 ^ 64 % 2 ^ 64
      omega
  · rw [iff_t, iff_t]
    refine Res.of (tail7 t0 h.ok' ?_)
    apply lU_inj
    rw [lU_narrow, lU_narrow, lU_sub, lU_sub]
    have b1 := lU_lt (F_X1_narrow a (wb τ) * F_X1_narrow b (wb τ))
    have b2 := lU_lt (a * b)
    revert e1 b1 b2
    generalize lU (F_X1_narrow a (wb τ) * F_X1_narrow b (wb τ)) = p1
    generalize lU (a * b) = p2
    cases wb τ
    · show p1 % 2 ^ 32 = p2 % 2 ^ 32 → p1 < 2 ^ 64 → p2 < 2 ^ 64 → (2 ^ 64 - p1 + lU s) % 2 ^ 64 % 2 ^ 32 = (2 ^ 64 - p2 + lU s) % 2 ^ 64 % 2 ^ 32
      omega
    · show p1 % 2 ^ 64 = p2 % 2 ^ 64 → p1 < 2 ^ 64 → p2 < 2 ^ 64 → (2 ^ 64 - p1 + lU s) % 2 ^ 64 % 2 ^ 64 = (2 ^ 64 - p2 + lU s) % 2 ^ 64 % 2 ^ 64
      omega
