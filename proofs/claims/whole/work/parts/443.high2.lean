theorem hi32 (x : Int64) : lU (j_lshr x 32 &&& 4294967295) = lU x / 2 ^ 32 := by
  rw [← lU_ushrG x (n := 32) (by decide)]
  congr 1
  apply l_ext
  intro i hi
  rw [lb_and, lb_mask32, show (32 : Int32) = nI 32 from rfl, lb_sshr _ _ hi, lb_ushr, s6_nI (by decide)]
  by_cases h : i < 32
  · rw [if_pos (by omega)]
    simp [h]
  · rw [lb_big x (i := 32 + i) (by omega)]
    simp [h]
theorem prod64 {a b : Nat} (ha : a < 2 ^ 32) (hb : b < 2 ^ 32) : a * b < 2 ^ 64 := by
  have : a * b ≤ (2 ^ 32 - 1) * (2 ^ 32 - 1) := Nat.mul_le_mul (by omega) (by omega)
  omega
theorem lU_mulP {x y : Int64} (hx : lU x < 2 ^ 32) (hy : lU y < 2 ^ 32) : lU (x * y) = lU x * lU y := by
  rw [lU_mul, Nat.mod_eq_of_lt (prod64 hx hy)]
theorem upper_U (a b : Int64) : lU (F_X12_upper a b) = ((lU a / 2 ^ 32) * (lU b / 2 ^ 32) + (lU a / 2 ^ 32) * (lU b % 2 ^ 32) / 2 ^ 32 + (lU a % 2 ^ 32) * (lU b / 2 ^ 32) / 2 ^ 32 + ((lU a % 2 ^ 32) * (lU b % 2 ^ 32) / 2 ^ 32 + (lU a / 2 ^ 32) * (lU b % 2 ^ 32) % 2 ^ 32 + (lU a % 2 ^ 32) * (lU b / 2 ^ 32) % 2 ^ 32) / 2 ^ 32) % 2 ^ 64 := by
  unfold F_X12_upper F_X12_upper_c7 F_X12_upper_c17 F_X12_upper_c24 F_X12_upper_c34
  have ha := lU_lt a
  have hb := lU_lt b
  have ea0 := lo32 a
  have ea1 := hi32 a
  have eb0 := lo32 b
  have eb1 := hi32 b
  generalize a &&& 4294967295 = a0 at ea0
  generalize j_lshr a 32 &&& 4294967295 = a1 at ea1
  generalize b &&& 4294967295 = b0 at eb0
  generalize j_lshr b 32 &&& 4294967295 = b1 at eb1
  have la0 : lU a0 < 2 ^ 32 := by omega
  have la1 : lU a1 < 2 ^ 32 := by omega
  have lb0 : lU b0 < 2 ^ 32 := by omega
  have lb1 : lU b1 < 2 ^ 32 := by omega
  rw [← ea0, ← ea1, ← eb0, ← eb1]
  have p1 := prod64 la1 lb0
  have p2 := prod64 la0 lb1
  have p3 := prod64 la0 lb0
  rw [lU_add, lU_add, lU_add, hi32, hi32, hi32, lU_add, lU_add, hi32, lo32, lo32, lU_mulP la1 lb1, lU_mulP la1 lb0, lU_mulP la0 lb1, lU_mulP la0 lb0]
  generalize lU a1 * lU b1 = p
  generalize lU a1 * lU b0 = q at p1
  generalize lU a0 * lU b1 = r at p2
  generalize lU a0 * lU b0 = t at p3
  omega
theorem pbnd {x y : Int} (h1 : -2 ^ 31 ≤ x) (h2 : x ≤ 2 ^ 31 - 1) (h3 : 0 ≤ y) : -2 ^ 31 * y ≤ x * y ∧ x * y ≤ (2 ^ 31 - 1) * y := ⟨Int.mul_le_mul_of_nonneg_right h1 h3, Int.mul_le_mul_of_nonneg_right h2 h3⟩
theorem mh_T (a b : Int64) : ∃ k : Int, T (F_J9_multiplyHigh_f86c9 a b) = (T a / 2 ^ 32) * (T b / 2 ^ 32) + ((T a / 2 ^ 32) * ((lU b % 2 ^ 32 : Nat) : Int) + ((lU a % 2 ^ 32 : Nat) : Int) * ((lU b % 2 ^ 32 : Nat) : Int) / 2 ^ 32) / 2 ^ 32 + (((T a / 2 ^ 32) * ((lU b % 2 ^ 32 : Nat) : Int) + ((lU a % 2 ^ 32 : Nat) : Int) * ((lU b % 2 ^ 32 : Nat) : Int) / 2 ^ 32) % 2 ^ 32 + ((lU a % 2 ^ 32 : Nat) : Int) * (T b / 2 ^ 32)) / 2 ^ 32 + 2 ^ 64 * k := by
  unfold F_J9_multiplyHigh_f86c9 F_J9_multiplyHigh_f86c9_c6 F_J9_multiplyHigh_f86c9_c13 F_J9_multiplyHigh_f86c9_c19 F_J9_multiplyHigh_f86c9_c26 F_J9_multiplyHigh_f86c9_c46 F_J9_multiplyHigh_f86c9_c54
  have sh : ∀ x : Int64, T (j_lshr x 32) = T x / 2 ^ 32 := fun x => T_sshr x (n := 32) (by decide)
  have a_lo := T_lo a
  have a_hi := T_hi a
  have b_lo := T_lo b
  have b_hi := T_hi b
  have ea0 := lo32 a
  have eb0 := lo32 b
  have ea1 := sh a
  have eb1 := sh b
  generalize a &&& 4294967295 = a0 at ea0
  generalize b &&& 4294967295 = b0 at eb0
  generalize j_lshr a 32 = a1 at ea1
  generalize j_lshr b 32 = b1 at eb1
  have la0 : lU a0 < 2 ^ 32 := by omega
  have lb0 : lU b0 < 2 ^ 32 := by omega
  have ta0 : T a0 = (lU a0 : Int) := T_of rfl (by omega)
  have tb0 : T b0 = (lU b0 : Int) := T_of rfl (by omega)
  rw [← ea1, ← eb1, ← ea0, ← eb0]
  have p3 := prod64 la0 lb0
  have hc : lU (j_lushr (a0 * b0) 32) = lU a0 * lU b0 / 2 ^ 32 := by
    rw [show (32 : Int32) = nI 32 from rfl, lU_ushrG _ (by decide), lU_mulP la0 lb0]
  have tc : T (j_lushr (a0 * b0) 32) = (lU a0 : Int) * (lU b0 : Int) / 2 ^ 32 := by
    rw [T_of hc (by omega)]
    simp
  have ba1 := pbnd (x := T a1) (y := (lU b0 : Int)) (by omega) (by omega) (by omega)
  have bb1 := pbnd (x := T b1) (y := (lU a0 : Int)) (by omega) (by omega) (by omega)
  rw [Int.mul_comm (T b1)] at bb1
  have hct : (lU a0 : Int) * (lU b0 : Int) < 2 ^ 64 := by exact_mod_cast p3
  have hct0 : 0 ≤ (lU a0 : Int) * (lU b0 : Int) := by exact_mod_cast Nat.zero_le _
  have t1 : T (a1 * b0) = T a1 * (lU b0 : Int) := by
    rw [T_mul, tb0, bm_in (by omega) (by omega)]
  have hcB : (lU a0 : Int) * (lU b0 : Int) ≤ (2 ^ 32 - 1) * (lU b0 : Int) := Int.mul_le_mul_of_nonneg_right (by omega) (by omega)
  have t14 : T (a1 * b0 + j_lushr (a0 * b0) 32) = T a1 * (lU b0 : Int) + (lU a0 : Int) * (lU b0 : Int) / 2 ^ 32 := by
    rw [T_add, t1, tc, bm_in (by omega) (by omega)]
  generalize a1 * b0 + j_lushr (a0 * b0) 32 = w14 at t14
  have e16 := lo32 w14
  have t16 : T (w14 &&& 4294967295) = T w14 % 2 ^ 32 := by
    rw [T_of e16 (by omega), T_U w14]
    split <;> omega
  have t2 : T (a0 * b1) = (lU a0 : Int) * T b1 := by
    rw [T_mul, ta0, bm_in (by omega) (by omega)]
  have t17 : T ((w14 &&& 4294967295) + a0 * b1) = T w14 % 2 ^ 32 + (lU a0 : Int) * T b1 := by
    rw [T_add, t16, t2, bm_in (by omega) (by omega)]
  obtain ⟨k1, h1⟩ := bm (T a1 * T b1)
  obtain ⟨k2, h2⟩ := bm ((T a1 * T b1).bmod (2 ^ 64) + T w14 / 2 ^ 32)
  obtain ⟨k3, h3⟩ := bm (((T a1 * T b1).bmod (2 ^ 64) + T w14 / 2 ^ 32).bmod (2 ^ 64) + (T w14 % 2 ^ 32 + (lU a0 : Int) * T b1) / 2 ^ 32)
  refine ⟨k1 + k2 + k3, ?_⟩
  rw [T_add, T_add, T_mul, sh, sh, t17, h3, h2, h1, t14]
  omega
theorem sgn (x : Int64) : ((0 : Int64) ≤ x) = (lb x 63 = false) := by
  apply propext
  rw [← Int64.not_lt, lneg_iff]
  cases lb x 63 <;> simp
theorem core_use (a b : Int64) : ∃ k : Int, T (F_J9_multiplyHigh_f86c9 a b) = T (F_X12_upper a b) - (if lb a 63 = true then T b else 0) - (if lb b 63 = true then T a else 0) + 2 ^ 64 * k := by
  obtain ⟨k, hk⟩ := mh_T a b
  have hu := upper_U a b
  have ha := lU_lt a
  have hb := lU_lt b
  have c := core_mh ((lU a / 2 ^ 32 : Nat) : Int) ((lU a % 2 ^ 32 : Nat) : Int) ((lU b / 2 ^ 32 : Nat) : Int) ((lU b % 2 ^ 32 : Nat) : Int) (if lb a 63 = true then 1 else 0) (if lb b 63 = true then 1 else 0) (by split <;> simp) (by split <;> simp)
  have ea : T a / 2 ^ 32 = ((lU a / 2 ^ 32 : Nat) : Int) - 2 ^ 32 * (if lb a 63 = true then 1 else 0) := by
    rw [T_U a]
    split <;> omega
  have eb : T b / 2 ^ 32 = ((lU b / 2 ^ 32 : Nat) : Int) - 2 ^ 32 * (if lb b 63 = true then 1 else 0) := by
    rw [T_U b]
    split <;> omega
  rw [ea, eb, c] at hk
  have hU := T_U (F_X12_upper a b)
  rw [hu] at hU
  have hTa := T_U a
  have hTb := T_U b
  have ka : (2 : Int) ^ 32 * ((lU a / 2 ^ 32 : Nat) : Int) + ((lU a % 2 ^ 32 : Nat) : Int) = lU a := by omega
  have kb : (2 : Int) ^ 32 * ((lU b / 2 ^ 32 : Nat) : Int) + ((lU b % 2 ^ 32 : Nat) : Int) = lU b := by omega
  rw [ka, kb] at hk
  rw [← Int.natCast_mul, ← Int.natCast_mul, ← Int.natCast_mul, ← Int.natCast_mul] at hk
  generalize lU a / 2 ^ 32 * (lU b / 2 ^ 32) = p at hk hU
  generalize lU a / 2 ^ 32 * (lU b % 2 ^ 32) = q at hk hU
  generalize lU a % 2 ^ 32 * (lU b / 2 ^ 32) = r at hk hU
  generalize lU a % 2 ^ 32 * (lU b % 2 ^ 32) = t at hk hU
  clear hu c ea eb ka kb
  have hj : ∃ j : Int, T (F_X12_upper a b) = (p : Int) + (q : Int) / 2 ^ 32 + (r : Int) / 2 ^ 32 + ((t : Int) / 2 ^ 32 + (q : Int) % 2 ^ 32 + (r : Int) % 2 ^ 32) / 2 ^ 32 + 2 ^ 64 * j := by
    rw [hU]
    by_cases h : lb (F_X12_upper a b) 63 = true
    · rw [if_pos h]
      exact ⟨-(((p : Int) + (q : Int) / 2 ^ 32 + (r : Int) / 2 ^ 32 + ((t : Int) / 2 ^ 32 + (q : Int) % 2 ^ 32 + (r : Int) % 2 ^ 32) / 2 ^ 32) / 2 ^ 64) - 1, by omega⟩
    · rw [if_neg h]
      exact ⟨-(((p : Int) + (q : Int) / 2 ^ 32 + (r : Int) / 2 ^ 32 + ((t : Int) / 2 ^ 32 + (q : Int) % 2 ^ 32 + (r : Int) % 2 ^ 32) / 2 ^ 32) / 2 ^ 64), by omega⟩
  obtain ⟨j, hj⟩ := hj
  generalize (p : Int) + (q : Int) / 2 ^ 32 + (r : Int) / 2 ^ 32 + ((t : Int) / 2 ^ 32 + (q : Int) % 2 ^ 32 + (r : Int) % 2 ^ 32) / 2 ^ 32 = H at hk hj
  clear hU
  cases h1 : lb a 63 <;> cases h2 : lb b 63 <;> rw [h1] at hTa hk <;> rw [h2] at hTb hk
  · rw [iff_f, iff_f] at *
    exact ⟨k - j, by omega⟩
  · rw [iff_f, iff_t] at *
    exact ⟨k - j, by omega⟩
  · rw [iff_t, iff_f] at *
    exact ⟨k - j, by omega⟩
  · rw [iff_t] at hTa hTb hk
    rw [iff_t, iff_t]
    exact ⟨k - j - 1, by omega⟩
theorem sgn0 {x : Int64} (h : lb x 63 = false) : (0 : Int64) ≤ x := by rw [sgn]; exact h
theorem sgn1 {x : Int64} (h : lb x 63 = true) : ¬ (0 : Int64) ≤ x := by rw [sgn, h]; decide
theorem nar_t (v : Int64) : F_X1_narrow v true = v := rfl
theorem i_high {τ : MS} {pc : Int64} (t0 : Int32) (h : Ok τ pc) (h24 : fN (iU (m_ins τ)) 24 8 = 155) (h21 : fN (iU (m_ins τ)) 21 2 = 2) (h10 : fN (iU (m_ins τ)) 10 6 = 31) : Res (F_X12_highOf τ) (F_X7_upperTimes (xm τ pc t0) (m_ins τ)) τ pc t0 := by
  have hw : wb τ = true := by
    unfold wb
    have e := fN_tb (iU (m_ins τ)) 24 8 7
    rw [h24] at e
    simp at e
    rw [← e]
    rfl
  unfold F_X12_highOf F_X7_upperTimes F_X7_upperTimes_c49 F_X7_upperTimes_c56 F_X7_upperTimes_c64 F_X7_upperTimes_c82 F_X7_upperTimes_c94 F_X7_upperTimes_c98
  rw [show (24 : Int32) = nI 24 from rfl, top23 (c := 155) h24 (by decide), if_pos (show nI 155 = (155 : Int32) from rfl), gL_21_2, h21, if_pos (show nI 2 = (2 : Int32) from rfl), gL_10_6, h10, if_pos (show nI 31 = (31 : Int32) from rfl), xleft, xright, hw, nar_t, nar_t, fL_9_5, Option.bind_some, mreg _ (fN_lt _ _ _), Option.bind_some, fL_20_16, Option.bind_some, mreg _ (fN_lt _ _ _), Option.bind_some, pL_23]
  unfold F_X12_highOf_c32 F_X12_highOf_c53 F_X12_highOf_c65
  rw [oL_23]
  generalize rg τ (fN (iU (m_ins τ)) 5 5) = a
  generalize rg τ (fN (iU (m_ins τ)) 16 5) = b
  obtain ⟨k, hk⟩ := core_use a b
  have fin : ∀ {u v : Int64}, u = v → Res ((F_X12_f τ 4 0).bind fun v5 => (F_X12_put τ v5 u).bind fun v6 => some v6) ((F_X7_put (xm τ pc t0) (m_ins τ) v).1, (F_X7_put (xm τ pc t0) (m_ins τ) v).2) τ pc t0 := by
    intro u v e
    exact Res.of (tail7 t0 h.ok' (by rw [hw, nar_t]; exact e.symm))
  have e0 : ∀ x : Int64, T (x - 0) = T x := fun x => by rw [Int64.sub_zero]
  cases (iU (m_ins τ)).testBit 23
  · rw [iff_f, iff_f]
    cases h1 : lb a 63 <;> cases h2 : lb b 63 <;> rw [h1, h2] at hk
    · rw [if_pos (sgn0 h1), if_pos (sgn0 h2)]
      refine fin (T_eq (k := -k) ?_)
      rw [iff_f, iff_f] at hk
      omega
    · rw [if_pos (sgn0 h1), if_neg (sgn1 h2)]
      obtain ⟨k1, e1⟩ := bm (T (F_X12_upper a b) - T a)
      refine fin (T_eq (k := k1 - k) ?_)
      rw [iff_f, iff_t] at hk
      rw [T_sub, e1]
      omega
    · rw [if_neg (sgn1 h1), if_pos (sgn0 h2)]
      obtain ⟨k1, e1⟩ := bm (T (F_X12_upper a b) - T b)
      refine fin (T_eq (k := k1 - k) ?_)
      rw [iff_f, iff_t] at hk
      rw [T_sub, e1]
      omega
    · rw [if_neg (sgn1 h1), if_neg (sgn1 h2)]
      obtain ⟨k1, e1⟩ := bm (T (F_X12_upper a b) - T b)
      obtain ⟨k2, e2⟩ := bm ((T (F_X12_upper a b) - T b).bmod (2 ^ 64) - T a)
      refine fin (T_eq (k := k1 + k2 - k) ?_)
      rw [iff_t, iff_t] at hk
      rw [T_sub, T_sub, e2, e1]
      omega
  · rw [iff_t, iff_t]
    cases h1 : lb a 63 <;> cases h2 : lb b 63 <;> rw [h1, h2] at hk
    · rw [if_pos (sgn0 h1), if_pos (sgn0 h2)]
      refine fin (T_eq (k := -k) ?_)
      rw [iff_f, iff_f] at hk
      rw [show F_J9_multiplyHigh_f86c9 a b + (0 + 0) = F_J9_multiplyHigh_f86c9 a b from by simp]
      omega
    · rw [if_pos (sgn0 h1), if_neg (sgn1 h2)]
      obtain ⟨k1, e1⟩ := bm (T (F_J9_multiplyHigh_f86c9 a b) + T a)
      refine fin (T_eq (k := -k - k1) ?_)
      rw [iff_f, iff_t] at hk
      rw [show F_J9_multiplyHigh_f86c9 a b + (0 + a) = F_J9_multiplyHigh_f86c9 a b + a from by simp, T_add, e1]
      omega
    · rw [if_neg (sgn1 h1), if_pos (sgn0 h2)]
      obtain ⟨k1, e1⟩ := bm (T (F_J9_multiplyHigh_f86c9 a b) + T b)
      refine fin (T_eq (k := -k - k1) ?_)
      rw [iff_f, iff_t] at hk
      rw [show F_J9_multiplyHigh_f86c9 a b + (b + 0) = F_J9_multiplyHigh_f86c9 a b + b from by simp, T_add, e1]
      omega
    · rw [if_neg (sgn1 h1), if_neg (sgn1 h2)]
      obtain ⟨k1, e1⟩ := bm (T b + T a)
      obtain ⟨k2, e2⟩ := bm (T (F_J9_multiplyHigh_f86c9 a b) + (T b + T a).bmod (2 ^ 64))
      refine fin (T_eq (k := -k - k1 - k2) ?_)
      rw [iff_t, iff_t] at hk
      rw [T_add, T_add, e2, e1]
      omega
