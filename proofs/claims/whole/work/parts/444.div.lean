theorem T_div (x y : Int64) : T (x / y) = ((T x).tdiv (T y)).bmod (2 ^ 64) := Int64.toInt_div x y
theorem T_min (x : Int64) : T (x + (-9223372036854775808)) = (lU x : Int) - 2 ^ 63 := by
  have h := lU_lt x
  rw [T_add, show T (-9223372036854775808) = -2 ^ 63 from rfl, T_U, lb_top, Int.bmod_def]
  by_cases h2 : 2 ^ 63 ≤ lU x
  · rw [if_pos (decide_eq_true h2)]
    split <;> omega
  · rw [if_neg (fun q => h2 (of_decide_eq_true q))]
    split <;> omega
theorem ucmp (x y : Int64) : (x + (-9223372036854775808) < y + (-9223372036854775808)) ↔ lU x < lU y := by
  rw [Int64.lt_iff_toInt_lt]
  show T _ < T _ ↔ _
  rw [T_min, T_min]
  omega
theorem cmpU (x y : Int64) : (0 ≤ F_J13_compareUnsigned_74951 x y) ↔ lU y ≤ lU x := by
  unfold F_J13_compareUnsigned_74951 F_J13_compare_74951
  have h := ucmp x y
  by_cases h1 : lU y ≤ lU x
  · rw [if_pos (Int64.not_lt.mp (fun q => by have := h.mp q; omega))]
    simp [h1]
    split <;> decide
  · rw [if_neg (fun q => (Int64.not_lt.mpr q) (h.mpr (by omega)))]
    simp [h1]
theorem shl1_or (R : Nat) (b : Bool) : j_lshl (lN R) 1 ||| lN b.toNat = lN (2 * R + b.toNat) := by
  apply l_ext
  intro i hi
  have hb : b.toNat < 2 ^ 1 := by cases b <;> decide
  rw [lb_or, show (1 : Int32) = nI 1 from rfl, lb_shl _ _ hi, s6_nI (by decide), lb_lN, lb_lN, lb_lN, show 2 * R = 2 ^ 1 * R from rfl, Nat.testBit_two_pow_mul_add _ hb]
  by_cases h : i < 1
  · have h2 : ¬ 1 ≤ i := by omega
    have h3 : i < 64 := hi
    simp [h2, h3]
    omega
  · have h2 : 1 ≤ i := by omega
    have h3 : b.toNat.testBit i = false := by
      apply Nat.testBit_lt_two_pow
      exact Nat.lt_of_lt_of_le hb (Nat.pow_le_pow_right (by decide) h2)
    have h4 : i - 1 < 64 := by omega
    rw [h3, if_neg h]
    simp [h2, hi, h4]
theorem q_or {k q : Nat} (hk : k < 64) : lN (2 ^ (k + 1) * q) ||| j_lshl 1 (nI k) = lN (2 ^ k * (2 * q + 1)) := by
  have h1 : 2 ^ k < 2 ^ (k + 1) := Nat.pow_lt_pow_right (by decide) (by omega)
  have h2 : 2 ^ k < 2 ^ 64 := Nat.pow_lt_pow_right (by decide) hk
  rw [show (1 : Int64) = lN 1 from rfl, lU_shl hk (by omega), lN_or, Nat.one_mul, ← Nat.two_pow_add_eq_or_of_lt h1]
  congr 1
  rw [Nat.pow_succ]
  grind
theorem lN_mod (n : Nat) : lN (n % 2 ^ 64) = lN n := lU_inj (by rw [lU_lN, lU_lN, Nat.mod_mod])
theorem lN_sub64 {n m : Nat} (h : m ≤ n) : lN n - lN m = lN (n - m) := by
  apply lU_inj
  rw [lU_sub, lU_lN, lU_lN, lU_lN]
  omega
theorem q_loop (a b : Int64) (w : Int32) (hb : 1 ≤ lU b) : ∀ (n k R q : Nat), k < n → k ≤ 64 → R < lU b → F_X12_quotient_c12 n a b w (lN R) (lN (2 ^ k * q)) (nI k + (-1)) = some (lN (2 ^ k * q + (R * 2 ^ k + lU a % 2 ^ k) / lU b)) := by
  intro n
  have hB := lU_lt b
  induction n with
  | zero => intro k R q h; omega
  | succ n ih =>
    intro k R q hn hk hR
    rw [F_X12_quotient_c12]
    cases k with
    | zero =>
      rw [if_pos (by decide)]
      rw [Nat.pow_zero, Nat.mul_one, Nat.mod_one, Nat.add_zero, Nat.div_eq_of_lt hR, Nat.add_zero]
    | succ k =>
      rw [pk_m1, if_neg (nI_pos (by omega))]
      unfold F_X12_quotient_c29 F_X12_quotient_c44 F_X12_quotient_c64 F_X12_quotient_c79
      have e0 : lU a % 2 ^ (k + 1) = (lb a k).toNat * 2 ^ k + lU a % 2 ^ k := by
        rw [Nat.pow_succ, Nat.mod_mul, tb1, lb_tb, Nat.mul_comm, Nat.add_comm]
      have e1 : R * 2 ^ (k + 1) + lU a % 2 ^ (k + 1) = (2 * R + (lb a k).toNat) * 2 ^ k + lU a % 2 ^ k := by
        rw [e0, Nat.pow_succ]
        generalize 2 ^ k = t
        generalize lU a % t = s
        generalize (lb a k).toNat = c
        grind
      rw [lU_sshr1 a (by omega), shl1_or, e1]
      have hc : (lb a k).toNat < 2 := bN_lt _
      generalize (lb a k).toNat = c at hc
      have hyes : lU b ≤ 2 * R + c → F_X12_quotient_c12 n a b w (lN (2 * R + c) - b) (lN (2 ^ (k + 1) * q) ||| j_lshl 1 (nI k)) (nI k + (-1)) = some (lN (2 ^ (k + 1) * q + ((2 * R + c) * 2 ^ k + lU a % 2 ^ k) / lU b)) := by
        intro h
        have e2 : lN (2 * R + c) - b = lN (2 * R + c - lU b) := by
          have := lN_sub64 h
          rw [lN_lU] at this
          exact this
        rw [e2, q_or (by omega), ih k (2 * R + c - lU b) (2 * q + 1) (by omega) (by omega) (by omega)]
        congr 2
        have e3 : (2 * R + c) * 2 ^ k + lU a % 2 ^ k = (2 * R + c - lU b) * 2 ^ k + lU a % 2 ^ k + 2 ^ k * lU b := by
          obtain ⟨d, hd⟩ := Nat.exists_eq_add_of_le h
          rw [hd, show lU b + d - lU b = d from by omega]
          generalize 2 ^ k = t
          generalize lU a % t = s
          grind
        rw [e3, Nat.add_mul_div_right _ _ (by omega), Nat.pow_succ]
        generalize ((2 * R + c - lU b) * 2 ^ k + lU a % 2 ^ k) / lU b = y
        generalize 2 ^ k = t
        grind
      have hno : ¬ lU b ≤ 2 * R + c → F_X12_quotient_c12 n a b w (lN (2 * R + c)) (lN (2 ^ (k + 1) * q)) (nI k + (-1)) = some (lN (2 ^ (k + 1) * q + ((2 * R + c) * 2 ^ k + lU a % 2 ^ k) / lU b)) := by
        intro h
        have e2 : 2 ^ (k + 1) * q = 2 ^ k * (2 * q) := by rw [Nat.pow_succ]; grind
        rw [e2, ih k (2 * R + c) (2 * q) (by omega) (by omega) (by omega)]
      have hs : lb (lN R) 63 = decide (2 ^ 63 ≤ R) := by rw [lb_top, lU_lN, Nat.mod_eq_of_lt (by omega)]
      by_cases h63 : 2 ^ 63 ≤ R
      · rw [if_neg (sgn1 (by rw [hs]; exact decide_eq_true h63)), iff_t]
        exact hyes (by omega)
      · rw [if_pos (sgn0 (by rw [hs]; exact decide_eq_false h63)), iff_f]
        have hu : (lN (2 * R + c) + (-9223372036854775808) < b + (-9223372036854775808)) ↔ ¬ lU b ≤ 2 * R + c := by
          rw [ucmp, lU_lN, Nat.mod_eq_of_lt (by omega)]
          omega
        by_cases h : lU b ≤ 2 * R + c
        · rw [if_neg (fun x => (hu.mp x) h)]
          exact hyes h
        · rw [if_pos (hu.mpr h)]
          exact hno h
theorem mquot {a b : Int64} {w : Nat} (hb : 1 ≤ lU b) (hw : w ≤ 64) (hw1 : 1 ≤ w) (ha : lU a < 2 ^ w) : F_X12_quotient a b (nI w) = some (lN (lU a / lU b)) := by
  unfold F_X12_quotient
  have h := q_loop a b (nI w) hb 70 w 0 0 (by omega) hw (by omega)
  rw [Nat.mul_zero, Nat.zero_mul, Nat.zero_add, Nat.zero_add, Nat.mod_eq_of_lt ha] at h
  rw [show nI w - (1 : Int32) = nI w + (-1) from by rw [pred_nI hw1]; obtain ⟨q, rfl⟩ := Nat.exists_eq_add_of_le' hw1; rw [pk_m1]; rfl]
  exact h
theorem halfdiv {A B : Nat} (hB : 1 ≤ B) : A / B = if B ≤ A - 2 * (A / 2 / B) * B then 2 * (A / 2 / B) + 1 else 2 * (A / 2 / B) := by
  have h1 : A / 2 = B * (A / 2 / B) + A / 2 % B := (Nat.div_add_mod _ _).symm
  have h2 : A / 2 % B < B := Nat.mod_lt _ (by omega)
  generalize A / 2 / B = q at h1
  generalize A / 2 % B = s at h1 h2
  have h3 : A = B * (2 * q) + (2 * s + A % 2) := by
    have : A = 2 * (A / 2) + A % 2 := (Nat.div_add_mod _ _).symm
    rw [h1] at this
    have e : 2 * (B * q + s) = B * (2 * q) + 2 * s := by grind
    omega
  have h4 : A - 2 * q * B = 2 * s + A % 2 := by
    rw [Nat.mul_comm (2 * q) B]
    omega
  rw [h4]
  split
  · rw [Nat.div_eq_iff (by omega)]
    have e : (2 * q + 1) * B = B * (2 * q) + B := by grind
    rw [e]
    omega
  · rw [Nat.div_eq_iff (by omega)]
    have e : (2 * q) * B = B * (2 * q) := by grind
    rw [e]
    omega
theorem xquot (a b : Int64) : F_X7_quotient a b = lN (lU a / lU b) := by
  have hA := lU_lt a
  have hB := lU_lt b
  unfold F_X7_quotient F_X7_quotient_c37
  by_cases h0 : b = 0
  · rw [if_pos h0, h0, show lU 0 = 0 from rfl, Nat.div_zero]
    rfl
  · rw [if_neg h0]
    have hb1 : 1 ≤ lU b := by
      rcases Nat.eq_zero_or_pos (lU b) with h | h
      · exact absurd (lU_inj h) h0
      · exact h
    by_cases h63 : 2 ^ 63 ≤ lU b
    · rw [if_neg (sgn1 (by rw [lb_top]; exact decide_eq_true h63))]
      by_cases h : lU b ≤ lU a
      · rw [if_pos ((cmpU a b).mpr h)]
        have : lU a / lU b = 1 := by
          rw [Nat.div_eq_iff (by omega)]
          omega
        rw [this]
        rfl
      · rw [if_neg (fun q => h ((cmpU a b).mp q)), Nat.div_eq_of_lt (by omega)]
        rfl
    · rw [if_pos (sgn0 (by rw [lb_top]; exact decide_eq_false h63))]
      have hu : lU (j_lushr a 1) = lU a / 2 := lU_ushrG a (n := 1) (by decide)
      have hq : lU a / 2 / lU b ≤ lU a / 2 := Nat.div_le_self _ _
      have hdiv : j_lushr a 1 / b = lN (lU a / 2 / lU b) := by
        apply T_inj
        rw [T_div, T_of hu (by omega), T_of rfl (by omega), T_of (x := lN (lU a / 2 / lU b)) (v := lU a / 2 / lU b) (by rw [lU_lN, Nat.mod_eq_of_lt (Nat.lt_of_le_of_lt hq (by omega))]) (by omega)]
        rw [← Int.ofNat_tdiv]
        generalize lU a / 2 / lU b = y at hq
        rw [bm_in (by omega) (by omega)]
      rw [hdiv, show (1 : Int32) = nI 1 from rfl, lU_shl (by decide) (by omega)]
      have hmul : lU a / 2 / lU b * 2 ^ 1 * lU b ≤ lU a := by
        have := Nat.div_mul_le_self (lU a / 2) (lU b)
        have e : lU a / 2 / lU b * 2 ^ 1 * lU b = 2 * (lU a / 2 / lU b * lU b) := by grind
        omega
      have hdiff : lU (a - lN (lU a / 2 / lU b * 2 ^ 1) * b) = lU a - 2 * (lU a / 2 / lU b) * lU b := by
        have e1 : lN (lU a / 2 / lU b * 2 ^ 1) * b = lN (lU a / 2 / lU b * 2 ^ 1 * lU b) := by
          rw [show lN (lU a / 2 / lU b * 2 ^ 1) * b = lN (lU a / 2 / lU b * 2 ^ 1) * lN (lU b) from by rw [lN_lU], lN_mul]
        have e2 := lN_sub64 hmul
        rw [lN_lU] at e2
        rw [e1, e2, lU_lN, Nat.mod_eq_of_lt (by omega)]
        rw [show lU a / 2 / lU b * 2 ^ 1 = 2 * (lU a / 2 / lU b) from by omega]
      have hc := cmpU (a - lN (lU a / 2 / lU b * 2 ^ 1) * b) b
      rw [hdiff] at hc
      rw [halfdiv (A := lU a) hb1]
      by_cases h : lU b ≤ lU a - 2 * (lU a / 2 / lU b) * lU b
      · rw [if_pos (hc.mpr h), if_pos h, show (1 : Int64) = lN 1 from rfl, lN_add]
        congr 1
        omega
      · rw [if_neg (fun q => h (hc.mp q)), if_neg h]
        congr 1
        omega
