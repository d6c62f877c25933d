theorem iU_ushr {n : Nat} (hn : n < 32) (x : Int32) : iU (j_iushr x (nI n)) = iU x / 2 ^ n := by
  apply Nat.eq_of_testBit_eq
  intro i
  rw [← ib_tb, ib_ushr, s5_nI hn, Nat.testBit_div_two_pow, ib_tb, Nat.add_comm]
theorem one_shl : ∀ c, c < 32 → (((1 : Int32) <<< (nI c &&& 31)) - 1).toBitVec.toNat = 2 ^ c - 1 := by decide
def fN (w p c : Nat) : Nat := w / 2 ^ p % 2 ^ c
theorem iU_field (x : Int32) {p c : Nat} (hp : p < 32) (hc : c < 32) : F_X1_field x (nI p) (nI c) = nI (fN (iU x) p c) := by
  unfold F_X1_field
  rw [pk_and _ c (one_shl c hc)]
  show nI (iU (j_iushr x (nI p)) % 2 ^ c) = _
  rw [iU_ushr hp]
  rfl
theorem bit_sshr1 (x : Int32) {k : Nat} (hk : k < 32) : (x >>> (nI k &&& 31)) &&& 1 = nI (iU x / 2 ^ k % 2) := by
  apply i_ext
  intro i hi
  rw [ib_and, ib_sshr _ _ hi, s5_nI hk, ib_nI]
  rw [show (1 : Int32) = nI 1 from rfl, ib_nI]
  by_cases h : i = 0
  · subst h
    simp [ib_tb, Nat.testBit_zero]
    rw [if_pos hk, Nat.testBit_eq_decide_div_mod_eq]
  · have h1 : (1 : Nat).testBit i = false := by
      rw [show (1 : Nat) = 2 ^ 0 from rfl, Nat.testBit_two_pow]
      simp; omega
    have h2 : (iU x / 2 ^ k % 2).testBit i = false := by
      rw [show (2 : Nat) = 2 ^ 1 from rfl, Nat.testBit_mod_two_pow]
      simp; omega
    simp [h1, h2]
theorem iU_or_bit {a b : Nat} (ha : a < 2 ^ 31) (hb : b < 2) : (nI a <<< ((1 : Int32) &&& 31)) ||| nI b = nI (2 * a + b) := by
  have h1 : nI a <<< ((1 : Int32) &&& 31) = nI (2 * a) := by
    rw [pk_shlN (n := a) ((1 : Int32) &&& 31) 1 (by decide) (by omega)]
    rw [Nat.mul_comm]
  rw [h1]
  apply i_ext
  intro i hi
  rw [ib_or, ib_nI, ib_nI, ib_nI]
  have e : 2 * a + b = 2 ^ 1 * a + b := rfl
  rw [e, Nat.two_pow_add_eq_or_of_lt (i := 1) (by simpa using hb) a]
  simp [Nat.testBit_or, hi]
theorem f_loop (τ : MS) {h l : Nat} (hl : l ≤ h) (hh : h < 32) : ∀ (n k acc : Nat), k < n → k ≤ h + 1 - l → k < 32 → acc < 2 ^ (31 - k) → F_X12_f_c5 n τ (nI h) (nI l) (nI acc) (nI (l + k) + (-1)) = some (nI (acc * 2 ^ k + iU (m_ins τ) / 2 ^ l % 2 ^ k)) := by
  intro n
  induction n with
  | zero => intro k acc h; omega
  | succ n ih =>
    intro k acc hn hk hk32 hacc
    rw [F_X12_f_c5]
    cases k with
    | zero =>
      rw [if_pos]
      · simp [Nat.mod_one]
      · rw [Int32.lt_iff_toInt_lt]
        cases l with
        | zero => decide
        | succ l =>
          rw [Nat.add_zero, pk_m1, nI_toInt (by omega), nI_toInt (by omega)]
          omega
    | succ k =>
      rw [show l + (k + 1) = (l + k) + 1 from by omega, pk_m1]
      rw [if_neg (by rw [Int32.lt_iff_toInt_lt, nI_toInt (by omega), nI_toInt (by omega)]; omega)]
      rw [bit_sshr1 _ (by omega)]
      have hp : 2 ^ (31 - k) = 2 * 2 ^ (31 - (k + 1)) := by rw [show 31 - k = (31 - (k + 1)) + 1 from by omega, Nat.pow_succ, Nat.mul_comm]
      have hp2 : 2 ^ (31 - (k + 1)) ≤ 2 ^ 30 := Nat.pow_le_pow_right (by decide) (by omega)
      have hb : iU (m_ins τ) / 2 ^ (l + k) % 2 < 2 := Nat.mod_lt _ (by decide)
      rw [iU_or_bit (by omega) hb]
      rw [ih k _ (by omega) (by omega) (by omega) (by omega)]
      congr 2
      have h2 : iU (m_ins τ) / 2 ^ l % 2 ^ (k + 1) = iU (m_ins τ) / 2 ^ l % 2 ^ k + 2 ^ k * (iU (m_ins τ) / 2 ^ (l + k) % 2) := by
        rw [Nat.pow_add 2 l k, ← Nat.div_div_eq_div_mul, Nat.pow_succ, Nat.mod_mul]
      rw [h2, Nat.pow_succ]
      generalize iU (m_ins τ) / 2 ^ (l + k) % 2 = b
      generalize iU (m_ins τ) / 2 ^ l % 2 ^ k = c
      generalize 2 ^ k = t
      grind
theorem f_eq (τ : MS) {h l : Nat} (hl : l ≤ h) (hh : h < 32) (hc : h - l < 31) : F_X12_f τ (nI h) (nI l) = some (nI (fN (iU (m_ins τ)) l (h + 1 - l))) := by
  unfold F_X12_f
  have h1 := f_loop τ hl hh 70 (h + 1 - l) 0 (by omega) (by omega) (by omega) (Nat.pos_of_ne_zero (by simp))
  rw [show l + (h + 1 - l) = h + 1 from by omega, pk_m1] at h1
  rw [show (0 : Int32) = nI 0 from rfl, h1]
  simp [fN]
