def QM (E s r i : Nat) : Bool := decide ((i % E + r) % E ≤ s)
theorem dbl {w : Int64} {S : Nat} {Q : Nat → Bool} (hS : S ≤ 32) (h : ∀ i, i < 64 → lb w i = (decide (i < S) && Q i)) (hQ : ∀ i, S ≤ i → Q (i - S) = Q i) : ∀ i, i < 64 → lb (w ||| j_lshl w (nI S)) i = (decide (i < 2 * S) && Q i) := by
  intro i hi
  rw [lb_or, lb_shl _ _ hi, s6_nI (by omega), h i hi]
  by_cases h1 : i < S
  · have h2 : ¬ S ≤ i := by omega
    have h3 : i < 2 * S := by omega
    simp [h1, h2, h3]
  · have h2 : S ≤ i := by omega
    rw [h (i - S) (by omega), hQ i h2]
    by_cases h3 : i < 2 * S
    · have h4 : i - S < S := by omega
      simp [h1, h2, h3, h4]
    · have h4 : ¬ i - S < S := by omega
      simp [h1, h3, h4]
theorem el_bits {E s r : Nat} (hE : E = 2 ∨ E = 4 ∨ E = 8 ∨ E = 16 ∨ E = 32 ∨ E = 64) (hs : s < E - 1) (hr : r < E) : ∀ i, i < 64 → lb ((j_lushr (F_X1_ones (nI s + 1)) (nI r) ||| j_lshl (F_X1_ones (nI s + 1)) (nI E - nI r)) &&& F_X1_ones (nI E)) i = (decide (i < E) && QM E s r i) := by
  intro i hi
  rw [show nI s + (1 : Int32) = nI (s + 1) from nI_inc s, pk_sub (by omega), lb_and, lb_or, lb_ushr, lb_shl _ _ hi, ones_bits (by omega) hi, s6_nI (by omega)]
  have hs6 : s6 (nI (E - r)) = (E - r) % 64 := by unfold s6; rw [iU_nI]; omega
  rw [hs6]
  unfold QM
  by_cases h1 : i < E
  · have hm : i % E = i := Nat.mod_eq_of_lt h1
    rw [hm]
    by_cases h2 : i + r < E
    · have h3 : (i + r) % E = i + r := Nat.mod_eq_of_lt h2
      rw [h3, ones_bits (by omega) (by omega)]
      by_cases h4 : (E - r) % 64 ≤ i
      · have h5 : r = 0 := by omega
        have h6 : E = 64 := by omega
        subst h5 h6
        rw [ones_bits (by omega) (by omega)]
        have h7 : (64 - 0) % 64 = 0 := rfl
        by_cases h8 : i ≤ s
        · have h9 : i < s + 1 := by omega
          simp [h1, h8, h9]
        · have h9 : ¬ i < s + 1 := by omega
          simp [h1, h8, h9]
      · by_cases h8 : i + r ≤ s
        · have h9 : r + i < s + 1 := by omega
          simp [h1, h8, h9]
        · have h9 : ¬ r + i < s + 1 := by omega
          simp [h1, h8, h9, h4]
    · have h3 : (i + r) % E = i + r - E := by
        rw [Nat.mod_eq_sub_mod (by omega), Nat.mod_eq_of_lt (by omega)]
      have h4 : (E - r) % 64 = E - r := Nat.mod_eq_of_lt (by omega)
      rw [h3, h4]
      have h5 : E - r ≤ i := by omega
      have h6 : lb (F_X1_ones (nI (s + 1))) (r + i) = false := by
        by_cases h7 : r + i < 64
        · rw [ones_bits (by omega) h7]
          have : ¬ r + i < s + 1 := by omega
          simp [this]
        · exact lb_big _ (by omega)
      rw [h6, ones_bits (by omega) (by omega)]
      by_cases h8 : i + r - E ≤ s
      · have h9 : i - (E - r) < s + 1 := by omega
        simp [h1, h5, h8, h9]
      · have h9 : ¬ i - (E - r) < s + 1 := by omega
        simp [h1, h8, h9]
  · simp [h1]
theorem fill_bits {E s r : Nat} (i0 : Int32) (hE : E = 2 ∨ E = 4 ∨ E = 8 ∨ E = 16 ∨ E = 32 ∨ E = 64) {el : Int64} (h : ∀ i, i < 64 → lb el i = (decide (i < E) && QM E s r i)) : ∀ i, i < 64 → lb (if (2 : Int32) < nI E then F_X5_mask_c136_9_2 i0 (nI E) el else F_X5_mask_c136_9_2 i0 (nI E) (el ||| j_lshl el 2)) i = QM E s r i := by
  have last : ∀ w : Int64, (∀ i, i < 64 → lb w i = (decide (i < 64) && QM E s r i)) → ∀ i, i < 64 → lb w i = QM E s r i := by
    intro w hw i hi
    rw [hw i hi]
    simp [hi]
  unfold F_X5_mask_c136_9_2 F_X5_mask_c136_9_4 F_X5_mask_c136_9_8 F_X5_mask_c136_9_16 F_X5_mask_c136_9_32
  rcases hE with e | e | e | e | e | e <;> subst e
  · rw [if_neg (by decide), if_neg (by decide), if_neg (by decide), if_neg (by decide), if_neg (by decide)]
    refine last _ ?_
    refine dbl (S := 32) (by decide) (dbl (S := 16) (by decide) (dbl (S := 8) (by decide) (dbl (S := 4) (by decide) (dbl (S := 2) (by decide) h ?_) ?_) ?_) ?_) ?_
    all_goals intro i hi; unfold QM; congr 2; omega
  · rw [if_pos (by decide), if_neg (by decide), if_neg (by decide), if_neg (by decide), if_neg (by decide)]
    refine last _ ?_
    refine dbl (S := 32) (by decide) (dbl (S := 16) (by decide) (dbl (S := 8) (by decide) (dbl (S := 4) (by decide) h ?_) ?_) ?_) ?_
    all_goals intro i hi; unfold QM; congr 2; omega
  · rw [if_pos (by decide), if_pos (by decide), if_neg (by decide), if_neg (by decide), if_neg (by decide)]
    refine last _ ?_
    refine dbl (S := 32) (by decide) (dbl (S := 16) (by decide) (dbl (S := 8) (by decide) h ?_) ?_) ?_
    all_goals intro i hi; unfold QM; congr 2; omega
  · rw [if_pos (by decide), if_pos (by decide), if_pos (by decide), if_neg (by decide), if_neg (by decide)]
    refine last _ ?_
    refine dbl (S := 32) (by decide) (dbl (S := 16) (by decide) h ?_) ?_
    all_goals intro i hi; unfold QM; congr 2; omega
  · rw [if_pos (by decide), if_pos (by decide), if_pos (by decide), if_pos (by decide), if_neg (by decide)]
    refine last _ ?_
    refine dbl (S := 32) (by decide) h ?_
    all_goals intro i hi; unfold QM; congr 2; omega
  · rw [if_pos (by decide), if_pos (by decide), if_pos (by decide), if_pos (by decide), if_pos (by decide)]
    exact last _ h
theorem hob : ∀ L, L < 128 → 2 ≤ L → F_J6_highestOneBit_0f7a4 (nI L) = nI (2 ^ L.log2) := by decide +kernel
theorem log_cases : ∀ L, L < 128 → 2 ≤ L → (2 ^ L.log2 = 2 ∨ 2 ^ L.log2 = 4 ∨ 2 ^ L.log2 = 8 ∨ 2 ^ L.log2 = 16 ∨ 2 ^ L.log2 = 32 ∨ 2 ^ L.log2 = 64) ∧ L.log2 < 31 ∧ 1 ≤ L.log2 ∧ (1 : Int32) <<< (nI L.log2 &&& 31) = nI (2 ^ L.log2) := by decide +kernel
theorem andE : ∀ E, (E = 2 ∨ E = 4 ∨ E = 8 ∨ E = 16 ∨ E = 32 ∨ E = 64) → ∀ s, s < 64 → nI s &&& (nI E - (1 : Int32)) = nI (s % E) ∧ s % E < E := by
  intro E hE
  rcases hE with e | e | e | e | e | e <;> subst e <;> decide +kernel
theorem kk : ∀ N, N < 2 → ∀ s, s < 64 → (nI N <<< ((6 : Int32) &&& 31)) ||| ((nI s ^^^ (-1 : Int32)) &&& (63 : Int32)) = nI (64 * N + (63 - s)) := by decide +kernel
theorem notand (x y : Int32) : (x ^^^ (-1 : Int32)) &&& y = ((x &&& y) ^^^ (-1 : Int32)) &&& y := by
  apply i_ext
  intro i hi
  rw [ib_and, ib_xor, ib_and, ib_xor, ib_and]
  cases ib x i <;> cases ib y i <;> cases ib (-1) i <;> rfl
theorem and63 (x : Int32) : j_iushr x 10 &&& (63 : Int32) = nI (fN (iU x) 10 6) := by
  have h := gL_10_6 x
  exact h
theorem kx (x : Int32) : ((F_X1_field x 22 1) <<< ((6 : Int32) &&& 31)) ||| ((j_iushr x 10 ^^^ (-1 : Int32)) &&& (63 : Int32)) = nI (64 * fN (iU x) 22 1 + (63 - fN (iU x) 10 6)) := by
  rw [gL_22_1, notand, and63, kk _ (fN_lt _ _ _) _ (fN_lt _ _ _)]
