def cyb (a b : Int64) (c : Bool) (k : Nat) : Bool := BitVec.carry k a.toBitVec b.toBitVec c
theorem cyb_0 (a b : Int64) (c : Bool) : cyb a b c 0 = c := by
  unfold cyb BitVec.carry
  cases c <;> simp [Nat.mod_one]
theorem cyb_s (a b : Int64) (c : Bool) (k : Nat) : cyb a b c (k + 1) = ((lb a k && lb b k) || ((lb a k || lb b k) && cyb a b c k)) := by
  unfold cyb
  rw [BitVec.carry_succ]
  show Bool.atLeastTwo (lb a k) (lb b k) _ = _
  cases lb a k <;> cases lb b k <;> cases BitVec.carry k a.toBitVec b.toBitVec c <;> rfl
theorem lb_addc (a b : Int64) (c : Bool) {i : Nat} (hi : i < 64) : lb (a + b + lN c.toNat) i = (lb a i ^^ (lb b i ^^ cyb a b c i)) := by
  have e : (a + b + lN c.toNat).toBitVec = a.toBitVec + b.toBitVec + BitVec.setWidth 64 (BitVec.ofBool c) := by
    cases c <;> rfl
  unfold lb cyb
  rw [e, BitVec.getLsbD_add_add_bool hi]
theorem sum_bits (p q c : Bool) : ((lN p.toNat).toInt32 + (lN q.toNat).toInt32 + nI c.toNat) &&& 1 = nI (p ^^ (q ^^ c)).toNat ∧ ((lN p.toNat).toInt32 + (lN q.toNat).toInt32 + nI c.toNat) >>> ((1 : Int32) &&& 31) = nI ((p && q) || ((p || q) && c)).toNat := by
  cases p <;> cases q <;> cases c <;> decide
theorem nIb_l (b : Bool) : (nI b.toNat).toInt64 = lN b.toNat := by cases b <;> decide
theorem sum_loop (τ : MS) (a b t : Int64) (c : Bool) {w : Nat} (hw : w ≤ 64) (hw1 : 1 ≤ w) : ∀ (n k : Nat) (x : Int64), w < n + k → k ≤ w → (∀ i, i < 64 → lb t i = (lb x i || (decide (k ≤ i) && (decide (i < w) && (lb a i ^^ (lb b i ^^ cyb a b c i)))))) → F_X12_sum_c14 n τ a b (nI c.toNat) (nI w) x (nI (cyb a b c k).toNat) (nI (cyb a b c (k - 1)).toNat) (nI k) = some (t, mu_over (mu_carry τ (nI (cyb a b c w).toNat)) (nI (cyb a b c w).toNat ^^^ nI (cyb a b c (w - 1)).toNat)) := by
  intro n
  induction n with
  | zero => intro k x h1 h2; omega
  | succ n ih =>
    intro k x h1 h2 h
    rw [F_X12_sum_c14]
    by_cases hk : k = w
    · subst hk
      rw [if_pos (nI_le (Nat.le_refl _) (by omega))]
      congr 2
      exact end_bits h (fun i hi _ => by
        have : ¬ i < k := by omega
        simp [this])
    · have hlt : k < w := by omega
      rw [if_neg (nI_ge hlt (by omega))]
      unfold F_X12_sum_c45 F_X12_sum_c64
      rw [lU_sshr1 a (by omega), lU_sshr1 b (by omega), (sum_bits _ _ _).1, (sum_bits _ _ _).2, nI_inc, ← cyb_s, nIb_l]
      have h3 := ih (k + 1) (x ||| j_lshl (lN (lb a k ^^ (lb b k ^^ cyb a b c k)).toNat) (nI k)) (by omega) (by omega) (by
        intro i hi
        rw [h i hi, lb_or, lb_bool_shl _ (by omega) hi]
        by_cases h3 : i = k
        · subst h3
          simp [hlt]
          intro h
          omega
        · have h4 : (k ≤ i) ↔ (k + 1 ≤ i) := by omega
          simp [h3, h4])
      rw [Nat.add_sub_cancel] at h3
      exact h3
def wd (wide : Bool) : Nat := if wide = true then 64 else 32
theorem lb_mask32 (i : Nat) : lb 4294967295 i = decide (i < 32) := by
  show lb (lN (2 ^ 32 - 1)) i = _
  rw [lb_lN, Nat.testBit_two_pow_sub_one]
  by_cases h : i < 32 <;> simp [h]
  omega
theorem lb_narrow (x : Int64) (wide : Bool) {i : Nat} (hi : i < 64) : lb (F_X1_narrow x wide) i = (decide (i < wd wide) && lb x i) := by
  unfold F_X1_narrow wd
  cases wide
  · simp only [Bool.false_eq_true, if_false]
    rw [lb_and, lb_mask32, Bool.and_comm]
  · simp [hi]
theorem sum_eq (τ : MS) (a b : Int64) (c wide : Bool) : F_X12_sum τ a b (nI c.toNat) (nI (wd wide)) = some (F_X1_narrow (a + b + lN c.toNat) wide, mu_over (mu_carry τ (nI (cyb a b c (wd wide)).toNat)) (nI (cyb a b c (wd wide)).toNat ^^^ nI (cyb a b c (wd wide - 1)).toNat)) := by
  unfold F_X12_sum
  have hw : wd wide ≤ 64 := by unfold wd; split <;> omega
  have hw1 : 1 ≤ wd wide := by unfold wd; split <;> omega
  have h := sum_loop τ a b (F_X1_narrow (a + b + lN c.toNat) wide) c hw hw1 70 0 0 (by omega) (by omega) (fun i hi => by
    rw [lb_narrow _ _ hi, lb_addc _ _ _ hi, lb_0]
    simp)
  rw [Nat.zero_sub, cyb_0] at h
  exact h
