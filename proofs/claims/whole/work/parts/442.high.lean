def T (x : Int64) : Int := x.toInt
theorem T_inj {x y : Int64} (h : T x = T y) : x = y := Int64.toInt_inj.mp h
theorem T_lo (x : Int64) : -2 ^ 63 ≤ T x := Int64.le_toInt x
theorem T_hi (x : Int64) : T x < 2 ^ 63 := Int64.toInt_lt x
theorem T_U (x : Int64) : T x = (lU x : Int) - (if lb x 63 = true then 2 ^ 64 else 0) := by
  have h := lU_lt x
  have e : T x = if 2 * lU x < 2 ^ 64 then (lU x : Int) else (lU x : Int) - ((2 ^ 64 : Nat) : Int) := BitVec.toInt_eq_toNat_cond x.toBitVec
  rw [e, lb_top]
  by_cases h2 : 2 ^ 63 ≤ lU x
  · rw [if_neg (by omega), if_pos (decide_eq_true h2)]
    rfl
  · rw [if_pos (by omega), if_neg (fun q => h2 (of_decide_eq_true q))]
    omega
theorem bm (v : Int) : ∃ k : Int, v.bmod (2 ^ 64) = v + 2 ^ 64 * k := by
  rw [Int.bmod_def]
  split
  · exact ⟨-(v / 2 ^ 64), by omega⟩
  · exact ⟨-(v / 2 ^ 64) - 1, by omega⟩
theorem bm_in {v : Int} (h1 : -2 ^ 63 ≤ v) (h2 : v < 2 ^ 63) : v.bmod (2 ^ 64) = v := by
  rw [Int.bmod_def]
  split <;> omega
theorem T_add (x y : Int64) : T (x + y) = (T x + T y).bmod (2 ^ 64) := Int64.toInt_add x y
theorem T_mul (x y : Int64) : T (x * y) = (T x * T y).bmod (2 ^ 64) := Int64.toInt_mul x y
theorem T_sub (x y : Int64) : T (x - y) = (T x - T y).bmod (2 ^ 64) := Int64.toInt_sub x y
theorem T_eq {x y : Int64} {k : Int} (h : T x = T y + 2 ^ 64 * k) : x = y := by
  have a1 := T_lo x
  have a2 := T_hi x
  have b1 := T_lo y
  have b2 := T_hi y
  exact T_inj (by omega)
theorem T_of {x : Int64} {v : Nat} (h : lU x = v) (h2 : v < 2 ^ 63) : T x = v := by
  rw [T_U, h, lb_top, h, if_neg (fun q => by have := of_decide_eq_true q; omega)]
  omega
theorem T_sshr (x : Int64) {n : Nat} (hn : n < 64) : T (j_lshr x (nI n)) = T x / 2 ^ n := by
  have e : (j_lshr x (nI n)).toBitVec = x.toBitVec.sshiftRight n := by
    apply BitVec.eq_of_getLsbD_eq
    intro i hi
    have h := lb_sshr x (nI n) hi
    rw [s6_nI hn] at h
    rw [BitVec.getLsbD_sshiftRight]
    show lb (j_lshr x (nI n)) i = _
    rw [h]
    have h2 : ¬ 64 ≤ i := by omega
    by_cases h3 : n + i < 64
    · simp [h2, h3]
      rfl
    · simp [h2, h3]
      rw [BitVec.msb_eq_getLsbD_last]
      rfl
  show (j_lshr x (nI n)).toBitVec.toInt = x.toBitVec.toInt / 2 ^ n
  rw [e, BitVec.toInt_sshiftRight, Int.shiftRight_eq_div_pow]
  rfl
theorem lo32 (x : Int64) : lU (x &&& 4294967295) = lU x % 2 ^ 32 := lU_narrow x false
theorem core_mh (A1 A0 B1 B0 sa sb : Int) (ha : sa = 0 ∨ sa = 1) (hb : sb = 0 ∨ sb = 1) : (A1 - 2 ^ 32 * sa) * (B1 - 2 ^ 32 * sb) + ((A1 - 2 ^ 32 * sa) * B0 + A0 * B0 / 2 ^ 32) / 2 ^ 32 + (((A1 - 2 ^ 32 * sa) * B0 + A0 * B0 / 2 ^ 32) % 2 ^ 32 + A0 * (B1 - 2 ^ 32 * sb)) / 2 ^ 32 = A1 * B1 + A1 * B0 / 2 ^ 32 + A0 * B1 / 2 ^ 32 + (A0 * B0 / 2 ^ 32 + A1 * B0 % 2 ^ 32 + A0 * B1 % 2 ^ 32) / 2 ^ 32 - sa * (2 ^ 32 * B1 + B0) - sb * (2 ^ 32 * A1 + A0) + 2 ^ 64 * (sa * sb) := by
  have e1 : (A1 - 2 ^ 32) * (B1 - 2 ^ 32) = A1 * B1 - 2 ^ 32 * A1 - 2 ^ 32 * B1 + 2 ^ 64 := by grind
  have e2 : (A1 - 2 ^ 32) * B1 = A1 * B1 - 2 ^ 32 * B1 := by grind
  have e3 : A1 * (B1 - 2 ^ 32) = A1 * B1 - 2 ^ 32 * A1 := by grind
  have e4 : (A1 - 2 ^ 32) * B0 = A1 * B0 - 2 ^ 32 * B0 := by grind
  have e5 : A0 * (B1 - 2 ^ 32) = A0 * B1 - 2 ^ 32 * A0 := by grind
  rcases ha with h | h <;> subst h <;> rcases hb with h | h <;> subst h
  · simp only [Int.mul_zero, Int.sub_zero, Int.zero_mul, Int.add_zero]
    generalize A1 * B1 = p
    generalize A1 * B0 = q
    generalize A0 * B1 = r
    generalize A0 * B0 = t
    omega
  · simp only [Int.mul_zero, Int.sub_zero, Int.zero_mul, Int.add_zero, Int.mul_one, e3, e5, Int.one_mul]
    generalize A1 * B1 = p
    generalize A1 * B0 = q
    generalize A0 * B1 = r
    generalize A0 * B0 = t
    omega
  · simp only [Int.mul_zero, Int.sub_zero, Int.zero_mul, Int.add_zero, Int.mul_one, e2, e4, Int.one_mul]
    generalize A1 * B1 = p
    generalize A1 * B0 = q
    generalize A0 * B1 = r
    generalize A0 * B0 = t
    omega
  · simp only [Int.mul_zero, Int.sub_zero, Int.zero_mul, Int.add_zero, Int.mul_one, e1, e4, e5, Int.one_mul]
    generalize A1 * B1 = p
    generalize A1 * B0 = q
    generalize A0 * B1 = r
    generalize A0 * B0 = t
    omega
