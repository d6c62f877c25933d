theorem tb1 (x k : Nat) : x / 2 ^ k % 2 = (x.testBit k).toNat := by
  rw [Nat.testBit_eq_decide_div_mod_eq]
  rcases Nat.mod_two_eq_zero_or_one (x / 2 ^ k) with h | h <;> simp [h]
theorem on_eq (τ : MS) {k : Nat} (hk : k < 32) : F_X12_on τ (nI k) = (iU (m_ins τ)).testBit k := by
  unfold F_X12_on
  rw [bit_sshr1 _ hk, tb1]
  cases (iU (m_ins τ)).testBit k <;> decide
theorem isOne_eq (x : Int32) {k : Nat} (hk : k < 32) : F_X1_isOne x (nI k) = (iU x).testBit k := by
  unfold F_X1_isOne
  rw [show (1 : Int32) = nI (2 ^ 1 - 1) from rfl, pk_and _ 1 (by decide)]
  show (if nI (iU (j_iushr x (nI k)) % 2 ^ 1) = 0 then false else true) = _
  rw [iU_ushr hk, Nat.pow_one, tb1]
  cases (iU x).testBit k <;> decide
theorem neg_iff (x : Int32) : x < 0 ↔ (iU x).testBit 31 = true := by
  rw [Int32.lt_iff_toInt_lt, show (0 : Int32).toInt = 0 from rfl]
  show x.toBitVec.toInt < 0 ↔ x.toBitVec.toNat.testBit 31 = true
  rw [BitVec.toInt_neg_iff, Nat.testBit_eq_decide_div_mod_eq]
  have := x.toBitVec.isLt
  simp
  omega
theorem nneg_iff (x : Int32) : 0 ≤ x ↔ (iU x).testBit 31 = false := by
  have h := neg_iff x
  rw [Int32.lt_iff_toInt_lt, show (0 : Int32).toInt = 0 from rfl] at h
  rw [Int32.le_iff_toInt_le, show (0 : Int32).toInt = 0 from rfl, ← Int.not_lt, h]
  simp
theorem width_eq (τ : MS) : F_X12_width τ = if (iU (m_ins τ)).testBit 31 = true then 64 else 32 := by
  unfold F_X12_width
  rw [show (31 : Int32) = nI 31 from rfl, on_eq τ (by decide)]
theorem lU_sshr1 (x : Int64) {k : Nat} (hk : k < 64) : (j_lshr x (nI k)) &&& 1 = lN ((lb x k).toNat) := by
  apply l_ext
  intro i hi
  rw [lb_and, lb_sshr _ _ hi, s6_nI hk, lb_lN]
  rw [show (1 : Int64) = lN 1 from rfl, lb_lN]
  by_cases h : i = 0
  · subst h
    simp [hk]
    cases lb x k <;> simp
  · have h1 : (1 : Nat).testBit i = false := by
      rw [show (1 : Nat) = 2 ^ 0 from rfl, Nat.testBit_two_pow]
      simp; omega
    have h2 : ((lb x k).toNat).testBit i = false := by
      cases lb x k
      · simp
      · exact h1
    simp [h1, h2]
theorem bit_eq (x : Int64) {k : Nat} (hk : k < 64) : F_X12_bit x (nI k) = lb x k := by
  unfold F_X12_bit
  rw [lU_sshr1 x hk]
  cases lb x k <;> decide
theorem lb_one_shl {k : Nat} (hk : k < 64) {i : Nat} (hi : i < 64) : lb (j_lshl 1 (nI k)) i = decide (i = k) := by
  rw [lb_shl _ _ hi, s6_nI hk, show (1 : Int64) = lN 1 from rfl, lb_lN, show (1 : Nat) = 2 ^ 0 from rfl, Nat.testBit_two_pow]
  by_cases h : i = k
  · subst h; simp
  · simp [h]; omega
theorem lb_bool_shl (b : Bool) {k : Nat} (hk : k < 64) {i : Nat} (hi : i < 64) : lb (j_lshl (lN b.toNat) (nI k)) i = (b && decide (i = k)) := by
  cases b
  · rw [lb_shl _ _ hi, lb_lN]; simp
  · rw [show lN true.toNat = 1 from rfl, lb_one_shl hk hi]; simp
theorem nI_inc (k : Nat) : nI k + (1) = nI (k + 1) := nI_1 k
theorem ge64 {k : Nat} (hk : k ≤ 64) : (64 : Int32) ≤ nI k ↔ k = 64 := by
  rw [show (64 : Int32) = nI 64 from rfl, nI_leI (by omega) (by omega)]
  omega
theorem ext_loop (a0 : Int64) (a1 : Int32) (t : Int64) : ∀ (n k : Nat) (x : Int64), 64 < n + k → k ≤ 64 → (∀ i, i < 64 → lb t i = (lb x i || decide (k ≤ i))) → F_X12_extend_c21 n a0 a1 x (nI k) = some t := by
  intro n
  induction n with
  | zero => intro k x h1 h2; omega
  | succ n ih =>
    intro k x h1 h2 h
    rw [F_X12_extend_c21]
    by_cases hk : k = 64
    · subst hk
      rw [if_pos ((ge64 (by omega)).mpr rfl)]
      congr 1
      apply l_ext
      intro i hi
      rw [h i hi]
      have : ¬ 64 ≤ i := by omega
      simp [this]
    · rw [if_neg (fun q => hk ((ge64 h2).mp q)), nI_inc]
      apply ih (k + 1) _ (by omega) (by omega)
      intro i hi
      rw [h i hi, lb_or, lb_one_shl (by omega) hi]
      by_cases h3 : i = k
      · subst h3; simp
      · have h4 : (k ≤ i) ↔ (k + 1 ≤ i) := by omega
        simp [h3, h4]
theorem pred_nI {w : Nat} (hw : 1 ≤ w) : nI w - (1 : Int32) = nI (w - 1) := by
  rw [show (1 : Int32) = nI 1 from rfl, pk_sub hw]
theorem ext_eq {a0 t : Int64} {w : Nat} (hw : 1 ≤ w) (hw2 : w ≤ 64) (h : ∀ i, i < 64 → lb t i = (lb a0 i || (decide (w ≤ i) && lb a0 (w - 1)))) : F_X12_extend a0 (nI w) = some t := by
  unfold F_X12_extend
  by_cases hk : w = 64
  · subst hk
    rw [if_pos ((ge64 (by omega)).mpr rfl)]
    congr 1
    apply l_ext
    intro i hi
    rw [h i hi]
    have : ¬ 64 ≤ i := by omega
    simp [this]
  · rw [if_neg (fun q => hk ((ge64 hw2).mp q)), pred_nI hw, bit_eq _ (by omega)]
    cases hb : lb a0 (w - 1)
    · rw [if_neg (by simp)]
      congr 1
      apply l_ext
      intro i hi
      rw [h i hi, hb]
      simp
    · rw [if_pos rfl]
      apply ext_loop _ _ _ 70 w a0 (by omega) hw2
      intro i hi
      rw [h i hi, hb]
      simp
theorem lU_or_bit {a : Nat} (b : Bool) (ha : a < 2 ^ 63) : (j_lshl (lN a) 1) ||| lN b.toNat = lN (2 * a + b.toNat) := by
  apply l_ext
  intro i hi
  rw [lb_or, lb_shl _ _ hi, show (1 : Int32) = nI 1 from rfl, s6_nI (by decide), lb_lN, lb_lN, lb_lN]
  have hb : b.toNat < 2 ^ 1 := by cases b <;> decide
  rw [show 2 * a + b.toNat = 2 ^ 1 * a + b.toNat from rfl, Nat.two_pow_add_eq_or_of_lt hb a, Nat.testBit_or, Nat.testBit_two_pow_mul]
  have h2 : i - 1 < 64 := by omega
  simp [hi, h2]
theorem bits_loop (v : Int64) {h l : Nat} (hl : l ≤ h) (hh : h < 64) : ∀ (n k acc : Nat), k < n → k ≤ h + 1 - l → acc * 2 ^ k < 2 ^ 64 → F_X12_bits_c6 n v (nI h) (nI l) (lN acc) (nI (l + k) + (-1)) = some (lN (acc * 2 ^ k + lU v / 2 ^ l % 2 ^ k)) := by
  intro n
  induction n with
  | zero => intro k acc h; omega
  | succ n ih =>
    intro k acc hn hk hacc
    rw [F_X12_bits_c6]
    cases k with
    | zero =>
      rw [if_pos]
      · simp [Nat.mod_one]
      · rw [Int32.lt_iff_toInt_lt]
        cases l with
        | zero => decide
        | succ l =>
          rw [Nat.add_zero, pk_m1, nI_toInt (by omega), nI_toInt (by omega)]
          omega
    | succ k =>
      rw [show l + (k + 1) = (l + k) + 1 from by omega, pk_m1]
      rw [if_neg (by rw [Int32.lt_iff_toInt_lt, nI_toInt (by omega), nI_toInt (by omega)]; omega)]
      rw [lU_sshr1 _ (by omega)]
      have hp : 1 ≤ 2 ^ k := Nat.pos_of_ne_zero (by simp)
      have ha : acc < 2 ^ 63 := by
        rw [Nat.pow_succ] at hacc
        have : acc * 2 ≤ acc * (2 ^ k * 2) := Nat.mul_le_mul_left _ (by omega)
        omega
      rw [lU_or_bit _ ha]
      have hb := tb1 (lU v) (l + k)
      rw [← lb_tb] at hb
      have hlt : (2 * acc + (lb v (l + k)).toNat) * 2 ^ k < 2 ^ 64 := by
        have h1 : (lb v (l + k)).toNat ≤ 1 := by cases lb v (l + k) <;> decide
        rw [Nat.pow_succ] at hacc
        have h3 : (lb v (l + k)).toNat * 2 ^ k ≤ 1 * 2 ^ k := Nat.mul_le_mul_right _ h1
        have h5 : 2 ^ k ∣ 2 ^ 64 := Nat.pow_dvd_pow 2 (by omega)
        obtain ⟨d, hd⟩ := h5
        rw [Nat.add_mul]
        have h6 : acc * (2 ^ k * 2) = 2 * acc * 2 ^ k := by grind
        rw [h6] at hacc
        rw [hd] at hacc ⊢
        have h7 : 2 * acc * 2 ^ k = 2 ^ k * (2 * acc) := by grind
        rw [h7] at hacc ⊢
        have h8 : 2 * acc < d := Nat.lt_of_mul_lt_mul_left hacc
        have h9 : 2 ^ k * (2 * acc + 1) ≤ 2 ^ k * d := Nat.mul_le_mul_left _ h8
        have h10 : ¬ (2 ^ k * (2 * acc) + (lb v (l + k)).toNat * 2 ^ k = 2 ^ k * d) ∨ True := Or.inr trivial
        rw [Nat.mul_add] at h9
        have h11 : 2 ∣ d ∨ k = 64 := by
          have : d = 2 ^ (64 - k) := by
            have e : 2 ^ 64 = 2 ^ k * 2 ^ (64 - k) := by rw [← Nat.pow_add]; congr 1; omega
            rw [e] at hd
            exact (Nat.eq_of_mul_eq_mul_left hp hd).symm
          left
          rw [this, show 64 - k = (63 - k) + 1 from by omega, Nat.pow_succ]
          exact ⟨_, Nat.mul_comm _ _⟩
        have h12 : 2 * acc + 1 < d := by omega
        have h13 : 2 ^ k * (2 * acc + 1) < 2 ^ k * d := Nat.mul_lt_mul_of_pos_left h12 hp
        rw [Nat.mul_add] at h13
        omega
      rw [ih k _ (by omega) (by omega) hlt]
      congr 2
      have h2 : lU v / 2 ^ l % 2 ^ (k + 1) = lU v / 2 ^ l % 2 ^ k + 2 ^ k * (lU v / 2 ^ (l + k) % 2) := by
        rw [Nat.pow_add 2 l k, ← Nat.div_div_eq_div_mul, Nat.pow_succ, Nat.mod_mul]
      rw [h2, hb, Nat.pow_succ]
      generalize (lb v (l + k)).toNat = b
      generalize lU v / 2 ^ l % 2 ^ k = c
      generalize 2 ^ k = t
      grind
theorem bits_eq (v : Int64) {h l : Nat} (hl : l ≤ h) (hh : h < 64) : F_X12_bits v (nI h) (nI l) = some (lN (lU v / 2 ^ l % 2 ^ (h + 1 - l))) := by
  unfold F_X12_bits
  have h1 := bits_loop v hl hh 70 (h + 1 - l) 0 (by omega) (by omega) (by simp)
  rw [show l + (h + 1 - l) = h + 1 from by omega, pk_m1] at h1
  rw [show (0 : Int64) = lN 0 from rfl, h1]
  simp
