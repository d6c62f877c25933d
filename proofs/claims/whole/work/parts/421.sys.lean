theorem xset_masked (τ : MS) (pc : Int64) (t0 : Int32) {e : Int64} {v : Int32} (h : e &&& 1 = v.toInt64) : F_X8_putPart (xm τ pc t0) 45 e = (true, xm (mu_masked τ v) pc t0) := by
  rw [show (45 : Int32) = nI 45 from rfl, putPart_eq _ (by decide), if_neg (by decide), if_neg (by decide), h]
  show (true, (cOf (m_mem τ), vp_updL (vp_updL (pOf τ) 33 pc) 45 v.toInt64, m_asked τ, nxt τ pc, t0 + m_taken τ, m_ins τ)) = _
  rw [updL_comm (by omega), ← pOf_masked τ]
  rfl
theorem xset_level (τ : MS) (pc : Int64) (t0 : Int32) {e : Int64} {v : Int32} (h : e &&& 1 = v.toInt64) : F_X8_putPart (xm τ pc t0) 43 e = (true, xm (mu_level τ v) pc t0) := by
  rw [show (43 : Int32) = nI 43 from rfl, putPart_eq _ (by decide), if_neg (by decide), if_neg (by decide), h]
  show (true, (cOf (m_mem τ), vp_updL (vp_updL (pOf τ) 33 pc) 43 v.toInt64, m_asked τ, nxt τ pc, t0 + m_taken τ, m_ins τ)) = _
  rw [updL_comm (by omega), ← pOf_level τ]
  rfl
theorem xset_select (τ : MS) (pc : Int64) (t0 : Int32) {e : Int64} {v : Int32} (h : e &&& 1 = v.toInt64) : F_X8_putPart (xm τ pc t0) 44 e = (true, xm (mu_select τ v) pc t0) := by
  rw [show (44 : Int32) = nI 44 from rfl, putPart_eq _ (by decide), if_neg (by decide), if_neg (by decide), h]
  show (true, (cOf (m_mem τ), vp_updL (vp_updL (pOf τ) 33 pc) 44 v.toInt64, m_asked τ, nxt τ pc, t0 + m_taken τ, m_ins τ)) = _
  rw [updL_comm (by omega), ← pOf_select τ]
  rfl
theorem xset_st (τ : MS) (pc : Int64) (t0 : Int32) {k : Nat} (hk : k < 11) (h2 : k ≠ 2) (v : Int64) : F_X8_putPart (xm τ pc t0) (nI (31 + k)) v = (true, xm (mu_state τ (vp_updL (m_state τ) k v)) pc t0) := by
  rw [putPart_eq _ (by omega), if_neg (by omega), if_pos (by omega), xm_st _ _ _ hk h2]
theorem Inv_masked {τ : MS} (hI : Inv τ) (b : Bool) : Inv (mu_masked τ (zB b)) := ⟨hI.1, hI.2.1, hI.2.2.1, ⟨b, rfl⟩, hI.2.2.2.2⟩
theorem Inv_select {τ : MS} (hI : Inv τ) (b : Bool) : Inv (mu_select τ (zB b)) := ⟨hI.1, hI.2.1, ⟨b, rfl⟩, hI.2.2.2⟩
theorem Inv_level {τ : MS} (hI : Inv τ) (b : Bool) : Inv (mu_level τ (zB b)) := ⟨hI.1, ⟨b, rfl⟩, hI.2.2⟩
theorem xlevel {τ : MS} (hI : Inv τ) (pc : Int64) (t0 : Int32) : F_X8_level (xm τ pc t0) = m_level τ := by
  obtain ⟨-, ⟨b, hb⟩, -⟩ := hI
  unfold F_X8_level
  rw [show (43 : Int32).toNatClampNeg = 43 from rfl, xP_43, hb]
  cases b <;> rfl
theorem and1_l (x : Int64) : x &&& 1 = lN (lb x 0).toNat := by
  apply l_ext
  intro i hi
  rw [lb_and, show (1 : Int64) = lN 1 from rfl, lb_lN, lb_lN]
  by_cases h : i = 0
  · subst h
    cases lb x 0 <;> simp
  · have h1 : (1 : Nat).testBit i = false := by
      rw [show (1 : Nat) = 2 ^ 0 from rfl, Nat.testBit_two_pow]
      simp; omega
    have h2 : ((lb x 0).toNat).testBit i = false := by
      cases lb x 0
      · simp
      · exact h1
    simp [h1, h2]
theorem zB_n (b : Bool) : zB b = nI b.toNat := by cases b <;> rfl
theorem keyX : ∀ o, o < 8 → ∀ u, u < 8 → (nI o <<< ((3 : Int32) &&& 31)) ||| nI u = nI (8 * o + u) := by decide +kernel
theorem and2 : ∀ i, i < 16 → (nI i &&& 2 = 0 ↔ i.testBit 1 = false) := by decide
theorem and1i : ∀ i, i < 16 → (nI i).toInt64 &&& 1 = (zB (i.testBit 0)).toInt64 := by decide
theorem u67 : ∀ u, u < 8 → u = 6 ∨ u = 7 → (7 : Int32) - nI u = zB (!u.testBit 0) := by decide
theorem i_sets {τ : MS} {pc : Int64} (t0 : Int32) (h : Ok τ pc) (h1 : fN (iU (m_ins τ)) 19 13 = 6816) (h2 : fN (iU (m_ins τ)) 12 4 = 4) (h3 : fN (iU (m_ins τ)) 0 5 = 31) : Res (F_X12_sets τ) (F_X3_setting (xm τ pc t0) (m_ins τ)) τ pc t0 := by
  have ho := fN_lt (iU (m_ins τ)) 16 3
  have hu := fN_lt (iU (m_ins τ)) 5 3
  have hi := fN_lt (iU (m_ins τ)) 8 4
  unfold F_X12_sets F_X3_setting
  rw [show (19 : Int32) = nI 19 from rfl, top23 (c := 6816) h1 (by decide), if_pos (show nI 6816 = (6816 : Int32) from rfl), gL_12_4, h2, if_pos (show nI 4 = (4 : Int32) from rfl), gL_0_5, h3, if_pos (show nI 31 = (31 : Int32) from rfl), xlevel h.1, gL_8_4, fL_18_16, Option.bind_some, fL_7_5, Option.bind_some]
  unfold F_X3_setting_c52
  rw [gL_16_3, gL_5_3, keyX _ ho _ hu, pL_5]
  have b5 : (iU (m_ins τ)).testBit 5 = (fN (iU (m_ins τ)) 5 3).testBit 0 := by rw [fN_tb]; rfl
  have b9 : (iU (m_ins τ)).testBit 9 = (fN (iU (m_ins τ)) 8 4).testBit 1 := by rw [fN_tb]; rfl
  have b8 : fN (iU (m_ins τ)) 8 1 = ((fN (iU (m_ins τ)) 8 4).testBit 0).toNat := by rw [fN_1, fN_tb]; rfl
  rw [b5]
  generalize hO : fN (iU (m_ins τ)) 16 3 = O at ho
  generalize hU : fN (iU (m_ins τ)) 5 3 = U at hu
  generalize hN : fN (iU (m_ins τ)) 8 4 = N at hi b8 b9
  have q3 : nI O = (3 : Int32) ↔ O = 3 := eqN (n := 3) (by omega) (by omega)
  have q0 : nI O = (0 : Int32) ↔ O = 0 := eqN (n := 0) (by omega) (by omega)
  have q6 : nI U = (6 : Int32) ↔ U = 6 := eqN (n := 6) (by omega) (by omega)
  have q7 : nI U = (7 : Int32) ↔ U = 7 := eqN (n := 7) (by omega) (by omega)
  have q5 : nI U = (5 : Int32) ↔ U = 5 := eqN (n := 5) (by omega) (by omega)
  have k5 : nI (8 * O + U) = (5 : Int32) ↔ 8 * O + U = 5 := eqN (n := 5) (by omega) (by omega)
  have k30 : nI (8 * O + U) = (30 : Int32) ↔ 8 * O + U = 30 := eqN (n := 30) (by omega) (by omega)
  have k31 : nI (8 * O + U) = (31 : Int32) ↔ 8 * O + U = 31 := eqN (n := 31) (by omega) (by omega)
  by_cases hz : m_level τ = 0
  · rw [if_pos hz]
    have e : ∀ s, F_X12_sets_c39 τ (nI O) (nI U) s = some (F_X12_none τ) := by
      intro s
      unfold F_X12_sets_c39 F_X12_sets_c60
      rw [if_pos hz]
    unfold F_X12_sets_c34 F_X12_sets_c38
    rw [e, e]
    refine Res.none h ?_ rfl
    split
    · split
      · rfl
      · split <;> rfl
    · rfl
  · rw [if_neg hz]
    have e1 : F_X12_sets_c34 τ (nI O) (nI U) = if N.testBit 1 = true then some (mu_masked τ (7 - nI U)) else some τ := by
      unfold F_X12_sets_c34 F_X12_sets_c39 F_X12_sets_c65
      rw [if_neg hz, iff_t, iff_t, oL_9, b9]
    have fin : U = 6 ∨ U = 7 → Res (F_X12_sets_c34 τ (nI O) (nI U)) (if nI N &&& 2 = 0 then (true, xm τ pc t0) else if U.testBit 0 = true then F_X3_setting_c143 (xm τ pc t0) (m_ins τ) 0 else F_X3_setting_c143 (xm τ pc t0) (m_ins τ) 1) τ pc t0 := by
      intro hu2
      rw [e1]
      cases hb : N.testBit 1
      · rw [iff_f, if_pos ((and2 N hi).mpr hb)]
        exact Res.of ⟨τ, rfl, h.ok', rfl⟩
      · rw [iff_t, if_neg (fun q => by rw [(and2 N hi).mp q] at hb; cases hb), u67 U hu hu2]
        unfold F_X3_setting_c143
        rw [xset_masked τ pc t0 (v := zB false) (by decide), xset_masked τ pc t0 (v := zB true) (by decide)]
        cases U.testBit 0
        · exact Res.of ⟨_, rfl, ⟨Inv_masked h.1 true, fun _ => h.2.2⟩, rfl⟩
        · exact Res.of ⟨_, rfl, ⟨Inv_masked h.1 false, fun _ => h.2.2⟩, rfl⟩
    have e2 : F_X12_sets_c38 τ (nI O) (nI U) = if 8 * O + U = 5 then some (mu_select τ (zB (N.testBit 0))) else some (F_X12_none τ) := by
      unfold F_X12_sets_c38 F_X12_sets_c39 F_X12_sets_c65 F_X12_sets_c60
      rw [if_neg hz, iff_f, iff_f, fL_8_8, Option.bind_some, b8, ← zB_n]
      by_cases a : O = 0
      · rw [if_pos (q0.mpr a)]
        by_cases b : U = 5
        · rw [if_pos (q5.mpr b), if_pos (by omega)]
        · rw [if_neg (fun q => b (q5.mp q)), if_neg (by omega)]
      · rw [if_neg (fun q => a (q0.mp q)), if_neg (by omega)]
    by_cases a3 : O = 3
    · rw [if_pos (q3.mpr a3)]
      by_cases a6 : U = 6
      · rw [if_pos (q6.mpr a6), if_neg (fun q => by have := k5.mp q; omega), if_pos (k30.mpr (by omega))]
        exact fin (Or.inl a6)
      · rw [if_neg (fun q => a6 (q6.mp q))]
        by_cases a7 : U = 7
        · rw [if_pos (q7.mpr a7), if_neg (fun q => by have := k5.mp q; omega), if_neg (fun q => by have := k30.mp q; omega), if_pos (k31.mpr (by omega))]
          exact fin (Or.inr a7)
        · rw [if_neg (fun q => a7 (q7.mp q)), e2, if_neg (by omega), if_neg (fun q => by have := k5.mp q; omega), if_neg (fun q => by have := k30.mp q; omega), if_neg (fun q => by have := k31.mp q; omega)]
          exact Res.none h rfl rfl
    · rw [if_neg (fun q => a3 (q3.mp q)), e2]
      by_cases a5 : 8 * O + U = 5
      · rw [if_pos a5, if_pos (k5.mpr a5), xset_select τ pc t0 (and1i N hi)]
        exact Res.of ⟨_, rfl, ⟨Inv_select h.1 _, fun _ => h.2.2⟩, rfl⟩
      · rw [if_neg a5, if_neg (fun q => a5 (k5.mp q)), if_neg (fun q => by have := k30.mp q; omega), if_neg (fun q => by have := k31.mp q; omega)]
        exact Res.none h rfl rfl
theorem and15_i (x : Int64) : x.toInt32 &&& 15 = nI (lU x % 16) ∧ (x &&& 15).toInt32 = nI (lU x % 16) := by
  constructor
  · apply i_ext
    intro i hi
    rw [ib_and, ib_l2i _ hi, show (15 : Int32) = nI (2 ^ 4 - 1) from rfl, ib_nI, ib_nI, Nat.testBit_two_pow_sub_one, show (16 : Nat) = 2 ^ 4 from rfl, Nat.testBit_mod_two_pow, ← lb_tb]
    cases lb x i <;> simp [hi]
  · apply i_ext
    intro i hi
    rw [ib_l2i _ hi, lb_and, show (15 : Int64) = lN (2 ^ 4 - 1) from rfl, lb_lN, ib_nI, Nat.testBit_two_pow_sub_one, show (16 : Nat) = 2 ^ 4 from rfl, Nat.testBit_mod_two_pow, ← lb_tb]
    have : i < 64 := by omega
    cases lb x i <;> simp [hi, this]
theorem ushr28 (x : Int64) : j_lushr x 28 &&& 15 = (nI (lU x / 2 ^ 28 % 16)).toInt64 := by
  have h1 : lU x / 2 ^ 28 % 16 < 16 := Nat.mod_lt _ (by decide)
  rw [nI_toL (by omega)]
  apply l_ext
  intro i hi
  rw [lb_and, lb_ushr, show (28 : Int32) = nI 28 from rfl, s6_nI (by decide), show (15 : Int64) = lN (2 ^ 4 - 1) from rfl, lb_lN, lb_lN, Nat.testBit_two_pow_sub_one, show (16 : Nat) = 2 ^ 4 from rfl, Nat.testBit_mod_two_pow, Nat.testBit_div_two_pow, lb_tb, Nat.add_comm]
  cases (lU x).testBit (i + 28) <;> simp [hi]
theorem ushr7 (x : Int64) : j_lushr x 7 &&& 1 = (zB (lb x 7)).toInt64 := by
  rw [show (7 : Int32) = nI 7 from rfl, lU_ushr1 _ (by decide), zB_l]
theorem bits77 (x : Int64) : F_X12_bits x 7 7 = some (lN (lb x 7).toNat) := by
  have h := bits_eq x (h := 7) (l := 7) (by decide) (by decide)
  rw [show (7 : Int32) = nI 7 from rfl, h]
  congr 2
  show lU x / 2 ^ 7 % 2 ^ 1 = _
  rw [Nat.pow_one, tb1]
  rfl
theorem bits3128 (x : Int64) : F_X12_bits x 31 28 = some (lN (lU x / 2 ^ 28 % 16)) := bits_eq x (h := 31) (l := 28) (by decide) (by decide)
theorem how_cases : ∀ n, n < 16 → n = 0 ∨ n = 4 ∨ n = 5 → (j_iushr (nI n) 2).toInt64 &&& 1 = (zB (n != 0)).toInt64 ∧ (nI n).toInt64 &&& 1 = (nI n &&& 1).toInt64 ∧ (nI n &&& 1 = zB (n.testBit 0)) := by decide
theorem i_back {τ : MS} {pc : Int64} (t0 : Int32) (h : Ok τ pc) (hw : iU (m_ins τ) = 3600745440) : Res (F_X12_back τ) (F_X3_back (xm τ pc t0) (m_ins τ)) τ pc t0 := by
  have hx : m_ins τ = -694221856 := by
    apply iU_inj
    rw [hw]
    decide
  unfold F_X12_back F_X3_back
  rw [if_pos hx, xlevel h.1]
  by_cases hz : m_level τ = 0
  · rw [if_pos hz, if_pos hz]
    exact Res.none h rfl rfl
  · rw [if_neg hz, if_neg hz]
    unfold F_X12_back_c25 F_X3_back_c28 F_X3_back_c35
    rw [show (38 : Int32) = nI (31 + 7) from rfl, part_eq _ (by decide), xP_st _ _ _ (by decide) (by decide), show (7 : Int32).toNatClampNeg = 7 from rfl, (and15_i _).1, (and15_i _).2]
    generalize hs : m_state τ 7 = s
    have hn : lU s % 16 < 16 := Nat.mod_lt _ (by decide)
    generalize lU s % 16 = n at hn
    have good : n = 0 ∨ n = 4 ∨ n = 5 → Res (F_X12_back_c53 τ (nI n)) (F_X3_back_c64 (xm τ pc t0) (m_ins τ) s (nI n)) τ pc t0 := by
      intro hc
      obtain ⟨c1, c2, c3⟩ := how_cases n hn hc
      unfold F_X12_back_c53 F_X3_back_c64 F_X3_back_c93 F_X3_back_c107 F_X3_back_c122 F_X12_back_c112
      rw [show (7 : Int32).toNatClampNeg = 7 from rfl, hs, bits3128, Option.bind_some]
      show Res ((F_X12_bits (m_state τ 7) 7 7).bind _) _ _ _ _
      rw [hs, bits77, Option.bind_some, show (37 : Int32) = nI (31 + 6) from rfl, part_eq _ (by decide), xP_st _ _ _ (by decide) (by decide), xgoes, xset_flags _ pc t0 (ushr28 s)]
      show Res _ (true, (F_X8_putPart (F_X8_putPart (F_X8_putPart (xm (mu_flags (F_X12_goes τ (m_state τ 6)) _) pc t0) 45 _).2 43 _).2 44 _).2) _ _ _
      rw [xset_masked _ pc t0 (ushr7 s)]
      show Res _ (true, (F_X8_putPart (F_X8_putPart (xm (mu_masked (mu_flags (F_X12_goes τ (m_state τ 6)) _) _) pc t0) 43 _).2 44 _).2) _ _ _
      rw [xset_level _ pc t0 c1]
      show Res _ (true, (F_X8_putPart (xm (mu_level (mu_masked (mu_flags (F_X12_goes τ (m_state τ 6)) _) _) _) pc t0) 44 _).2) _ _ _
      rw [xset_select _ pc t0 c2, lN_i, lN_i, c3, ← zB_n]
      have hf : lU s / 2 ^ 28 % 16 < 16 := Nat.mod_lt _ (by decide)
      have res : Res (some (mu_select (mu_level (mu_masked (mu_flags (F_X12_goes τ (m_state τ 6)) (nI (lU s / 2 ^ 28 % 16))) (zB (lb s 7))) (zB (n != 0))) (zB (n.testBit 0)))) (true, xm (mu_select (mu_level (mu_masked (mu_flags (F_X12_goes τ (m_state τ 6)) (nI (lU s / 2 ^ 28 % 16))) (zB (lb s 7))) (zB (n != 0))) (zB (n.testBit 0))) pc t0) τ pc t0 :=
        Res.of ⟨_, rfl, ⟨Inv_select (Inv_level (Inv_masked (Inv_flags (τ := F_X12_goes τ (m_state τ 6)) h.1 hf) _) _) _, fun q => by cases q⟩, rfl⟩
      rcases hc with rfl | rfl | rfl
      · rw [if_pos (show nI 0 = (0 : Int32) from rfl)]
        exact res
      · rw [if_neg (show ¬ nI 4 = (0 : Int32) by decide)]
        exact res
      · rw [if_neg (show ¬ nI 5 = (0 : Int32) by decide)]
        exact res
    by_cases n0 : n = 0
    · rw [if_pos (show nI n = (0 : Int32) by rw [n0]; rfl), if_pos (show nI n = (0 : Int32) by rw [n0]; rfl)]
      exact good (Or.inl n0)
    · have m0 : ¬ nI n = (0 : Int32) := fun q => n0 ((eqN (n := 0) (by omega) (by omega)).mp q)
      rw [if_neg m0, if_neg m0]
      by_cases n4 : n = 4
      · rw [if_pos (show nI n = (4 : Int32) by rw [n4]; rfl), if_pos (show nI n = (4 : Int32) by rw [n4]; rfl)]
        exact good (Or.inr (Or.inl n4))
      · have m4 : ¬ nI n = (4 : Int32) := fun q => n4 ((eqN (n := 4) (by omega) (by omega)).mp q)
        rw [if_neg m4, if_neg m4]
        by_cases n5 : n = 5
        · rw [if_pos (show nI n = (5 : Int32) by rw [n5]; rfl), if_pos (show nI n = (5 : Int32) by rw [n5]; rfl)]
          exact good (Or.inr (Or.inr n5))
        · have m5 : ¬ nI n = (5 : Int32) := fun q => n5 ((eqN (n := 5) (by omega) (by omega)).mp q)
          rw [if_neg m5, if_neg m5, show (14 : Int32) = nI 14 from rfl, show (0 : Int32) = nI 0 from rfl, raise_eq h.1 pc t0 (by decide) (by decide), show (0 : Int64) = lN 0 from rfl, st2 h, exception_eq h.1]
          exact Res.of ⟨_, rfl, Ok'_exc h.1 _ _ _ _, rfl⟩
