theorem iU_neg {n : Nat} (h : n < 2 ^ 32) : iU (-(nI n)) = (2 ^ 32 - n) % 2 ^ 32 := by
  show (-(BitVec.ofNat 32 n)).toNat = _
  rw [BitVec.toNat_neg, BitVec.toNat_ofNat, Nat.mod_eq_of_lt h]
theorem s6_neg {n : Nat} (h : n < 64) : s6 (-(nI n)) = (64 - n) % 64 := by
  unfold s6
  rw [iU_neg (by omega)]
  omega
theorem s5_neg {n : Nat} (h : n < 32) : s5 (-(nI n)) = (32 - n) % 32 := by
  unfold s5
  rw [iU_neg (by omega)]
  omega
theorem lb_and_mask {x : Int32} {i : Nat} (hi : i < 64) : lb (x.toInt64 &&& 4294967295) i = (decide (i < 32) && ib x i) := by
  rw [lb_and, lb_mask32, lb_i2l _ hi]
  by_cases h : i < 32 <;> simp [h]
theorem eqN {k n : Nat} (hk : k < 2 ^ 31) (hn : n < 2 ^ 31) : nI k = nI n ↔ k = n := nI_eq hk hn
theorem xmoved_bits {v : Int64} {how by_ : Nat} {wide : Bool} (hhow : how < 4) (hby : by_ < wd wide) (hv : ∀ i, wd wide ≤ i → lb v i = false) : ∀ i, i < 64 → lb (F_X1_moved v (nI how) (nI by_) wide) i = (decide (i < wd wide) && mvb v how by_ (wd wide) i) := by
  intro i hi
  have hw := wd_le wide
  have hw2 := wd_ge wide
  unfold F_X1_moved
  have hh : how = 0 ∨ how = 1 ∨ how = 2 ∨ how = 3 := by omega
  rcases hh with rfl | rfl | rfl | rfl
  · rw [if_pos (show nI 0 = (0 : Int32) from rfl), lb_narrow _ _ hi, lb_shl _ _ hi, s6_nI (by omega)]
    simp [mvb]
  · rw [if_neg (by decide), if_pos (show nI 1 = (1 : Int32) from rfl), lb_ushr, s6_nI (by omega)]
    by_cases h : i + by_ < wd wide
    · have h1 : i < wd wide := by omega
      have h7 : by_ + i < wd wide := by omega
      simp [mvb, h7, h1, Nat.add_comm]
    · rw [hv _ (by omega)]
      simp [mvb, h]
  · rw [if_neg (by decide), if_neg (by decide), if_pos (show nI 2 = (2 : Int32) from rfl)]
    cases wide
    · rw [if_neg (by decide), lb_and_mask hi]
      have e : wd false = 32 := rfl
      rw [e] at hv hby ⊢
      by_cases h : i < 32
      · rw [ib_sshr _ _ h, s5_nI (by omega)]
        by_cases h2 : by_ + i < 32
        · have h3 : i + by_ < 32 := by omega
          rw [if_pos h2, ib_l2i _ h2]
          simp [mvb, h, h2, Nat.add_comm]
        · have h3 : ¬ i + by_ < 32 := by omega
          rw [if_neg h2, ib_l2i _ (by omega)]
          simp [mvb, h, h3]
      · simp [h]
    · rw [if_pos rfl, lb_sshr _ _ hi, s6_nI (by exact hby)]
      have e : wd true = 64 := rfl
      rw [e]
      by_cases h2 : by_ + i < 64
      · have h3 : i + by_ < 64 := by omega
        simp [mvb, hi, h2, Nat.add_comm]
      · have h3 : ¬ i + by_ < 64 := by omega
        simp [mvb, hi, h2, h3]
  · rw [if_neg (by decide), if_neg (by decide), if_neg (by decide)]
    cases wide
    · rw [if_neg (by decide), lb_and_mask hi]
      have e : wd false = 32 := rfl
      rw [e] at hv hby ⊢
      by_cases h : i < 32
      · unfold F_J6_rotateRight_7cf53
        rw [ib_or, ib_ushr, ib_shl _ _ h, s5_nI (by omega), s5_neg (by omega)]
        by_cases h3 : i + by_ < 32
        · rw [ib_l2i _ (by omega)]
          by_cases h4 : by_ = 0
          · subst h4
            rw [show (32 - 0) % 32 = 0 from rfl, ib_l2i _ (by omega)]
            simp [mvb, h]
          · have h5 : ¬ (32 - by_) % 32 ≤ i := by omega
            have h7 : by_ + i < 32 := by omega
            simp [mvb, h, h5, h7, Nat.add_comm]
        · rw [ib_big _ (by omega)]
          have h5 : (32 - by_) % 32 ≤ i := by omega
          have h6 : i - (32 - by_) % 32 = i + by_ - 32 := by omega
          rw [ib_l2i _ (by omega), h6]
          simp [mvb, h, h3, h5]
      · simp [h]
    · rw [if_pos rfl]
      have e : wd true = 64 := rfl
      rw [e] at hv hby ⊢
      unfold F_J13_rotateRight_b2ac5
      rw [lb_or, lb_ushr, lb_shl _ _ hi, s6_nI (by omega), s6_neg (by omega)]
      by_cases h3 : i + by_ < 64
      · by_cases h4 : by_ = 0
        · subst h4
          rw [show (64 - 0) % 64 = 0 from rfl]
          simp [mvb, hi]
        · have h5 : ¬ (64 - by_) % 64 ≤ i := by omega
          have h7 : by_ + i < 64 := by omega
          simp [mvb, hi, h5, h7, Nat.add_comm]
      · rw [lb_big _ (by omega)]
        have h5 : (64 - by_) % 64 ≤ i := by omega
        have h6 : i - (64 - by_) % 64 = i + by_ - 64 := by omega
        rw [h6]
        simp [mvb, hi, h3, h5]
theorem narrow_hi (v : Int64) (wide : Bool) : ∀ i, wd wide ≤ i → lb (F_X1_narrow v wide) i = false := by
  intro i hi
  by_cases h : i < 64
  · rw [lb_narrow _ _ h]
    have : ¬ i < wd wide := by omega
    simp [this]
  · exact lb_big _ (by omega)
theorem mmoved_eq {v : Int64} {how by_ : Nat} {wide : Bool} (hhow : how < 4) (hby : by_ < wd wide) (hv : ∀ i, wd wide ≤ i → lb v i = false) : F_X12_moved v (nI how) (nI by_) (nI (wd wide)) = some (F_X1_moved v (nI how) (nI by_) wide) :=
  moved_eq hhow hby (wd_le wide) (xmoved_bits hhow hby hv)
theorem narrow_of {v : Int64} {wide : Bool} (hv : ∀ i, wd wide ≤ i → lb v i = false) : F_X1_narrow v wide = v := by
  apply l_ext
  intro i hi
  rw [lb_narrow _ _ hi]
  by_cases h : i < wd wide
  · simp [h]
  · rw [hv i (by omega)]; simp
theorem moved_hi {v : Int64} {how by_ : Nat} {wide : Bool} (hhow : how < 4) (hby : by_ < wd wide) (hv : ∀ i, wd wide ≤ i → lb v i = false) : F_X1_narrow (F_X1_moved v (nI how) (nI by_) wide) wide = F_X1_moved v (nI how) (nI by_) wide := by
  apply narrow_of
  intro i hi
  by_cases h : i < 64
  · rw [xmoved_bits hhow hby hv i h]
    have : ¬ i < wd wide := by omega
    simp [this]
  · exact lb_big _ (by omega)
