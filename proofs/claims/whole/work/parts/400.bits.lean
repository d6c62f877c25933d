def lb (x : Int64) (i : Nat) : Bool := x.toBitVec.getLsbD i
def ib (x : Int32) (i : Nat) : Bool := x.toBitVec.getLsbD i
def lU (x : Int64) : Nat := x.toBitVec.toNat
def iU (x : Int32) : Nat := x.toBitVec.toNat
theorem lU_lt (x : Int64) : lU x < 2 ^ 64 := x.toBitVec.isLt
theorem iU_lt (x : Int32) : iU x < 2 ^ 32 := x.toBitVec.isLt
theorem lU_inj {x y : Int64} (h : lU x = lU y) : x = y := Int64.toBitVec_inj.mp (BitVec.eq_of_toNat_eq h)
theorem iU_inj {x y : Int32} (h : iU x = iU y) : x = y := Int32.toBitVec_inj.mp (BitVec.eq_of_toNat_eq h)
theorem l_ext {x y : Int64} (h : ∀ i, i < 64 → lb x i = lb y i) : x = y := Int64.toBitVec_inj.mp (BitVec.eq_of_getLsbD_eq fun i hi => h i hi)
theorem i_ext {x y : Int32} (h : ∀ i, i < 32 → ib x i = ib y i) : x = y := Int32.toBitVec_inj.mp (BitVec.eq_of_getLsbD_eq fun i hi => h i hi)
theorem lb_and (x y : Int64) (i : Nat) : lb (x &&& y) i = (lb x i && lb y i) := by simp [lb]
theorem lb_or (x y : Int64) (i : Nat) : lb (x ||| y) i = (lb x i || lb y i) := by simp [lb]
theorem lb_xor (x y : Int64) (i : Nat) : lb (x ^^^ y) i = (lb x i ^^ lb y i) := by simp [lb]
theorem ib_and (x y : Int32) (i : Nat) : ib (x &&& y) i = (ib x i && ib y i) := by simp [ib]
theorem ib_or (x y : Int32) (i : Nat) : ib (x ||| y) i = (ib x i || ib y i) := by simp [ib]
theorem ib_xor (x y : Int32) (i : Nat) : ib (x ^^^ y) i = (ib x i ^^ ib y i) := by simp [ib]
theorem lb_big (x : Int64) {i : Nat} (h : 64 ≤ i) : lb x i = false := BitVec.getLsbD_of_ge _ _ h
theorem ib_big (x : Int32) {i : Nat} (h : 32 ≤ i) : ib x i = false := BitVec.getLsbD_of_ge _ _ h
theorem lb_tb (x : Int64) (i : Nat) : lb x i = (lU x).testBit i := rfl
theorem ib_tb (x : Int32) (i : Nat) : ib x i = (iU x).testBit i := rfl
theorem lU_lN (n : Nat) : lU (lN n) = n % 2 ^ 64 := by
  show (BitVec.ofNat 64 n).toNat = _
  rw [BitVec.toNat_ofNat]
theorem iU_nI (n : Nat) : iU (nI n) = n % 2 ^ 32 := by
  show (BitVec.ofNat 32 n).toNat = _
  rw [BitVec.toNat_ofNat]
theorem lb_lN (n i : Nat) : lb (lN n) i = (decide (i < 64) && n.testBit i) := by
  rw [lb_tb, lU_lN, Nat.testBit_mod_two_pow]
theorem ib_nI (n i : Nat) : ib (nI n) i = (decide (i < 32) && n.testBit i) := by
  rw [ib_tb, iU_nI, Nat.testBit_mod_two_pow]
theorem lN_lU (x : Int64) : lN (lU x) = x := lU_inj (by rw [lU_lN, Nat.mod_eq_of_lt (lU_lt x)])
theorem nI_iU (x : Int32) : nI (iU x) = x := iU_inj (by rw [iU_nI, Nat.mod_eq_of_lt (iU_lt x)])
theorem lb_i2l (x : Int32) {i : Nat} (hi : i < 64) : lb x.toInt64 i = if i < 32 then ib x i else ib x 31 := by
  show (x.toBitVec.signExtend 64).getLsbD i = _
  rw [BitVec.getLsbD_signExtend, BitVec.msb_eq_getLsbD_last]
  by_cases h : i < 32 <;> simp [h, hi, ib]
theorem ib_l2i (x : Int64) {i : Nat} (hi : i < 32) : ib x.toInt32 i = lb x i := by
  show (x.toBitVec.signExtend 32).getLsbD i = _
  rw [BitVec.getLsbD_signExtend]
  have h : i < 64 := by omega
  simp [h, hi, lb]
def s6 (y : Int32) : Nat := iU y % 64
def s5 (y : Int32) : Nat := iU y % 32
theorem s6_lt (y : Int32) : s6 y < 64 := Nat.mod_lt _ (by decide)
theorem s5_lt (y : Int32) : s5 y < 32 := Nat.mod_lt _ (by decide)
theorem s6_nI {n : Nat} (h : n < 64) : s6 (nI n) = n := by unfold s6; rw [iU_nI]; omega
theorem s5_nI {n : Nat} (h : n < 32) : s5 (nI n) = n := by unfold s5; rw [iU_nI]; omega
theorem lb_63 (i : Nat) : lb 63 i = decide (i < 6) := by
  show lb (lN 63) i = _
  rw [lb_lN, show (63 : Nat) = 2 ^ 6 - 1 from rfl, Nat.testBit_two_pow_sub_one]
  by_cases h : i < 6 <;> simp [h] <;> omega
theorem ib_31 (i : Nat) : ib 31 i = decide (i < 5) := by
  show ib (nI 31) i = _
  rw [ib_nI, show (31 : Nat) = 2 ^ 5 - 1 from rfl, Nat.testBit_two_pow_sub_one]
  by_cases h : i < 5 <;> simp [h] <;> omega
theorem amt6 (y : Int32) : y.toInt64 &&& 63 = lN (s6 y) := by
  apply l_ext
  intro i hi
  rw [lb_and, lb_i2l y hi, lb_63, lb_lN]
  unfold s6
  rw [show (64 : Nat) = 2 ^ 6 from rfl, Nat.testBit_mod_two_pow, ← ib_tb]
  by_cases h : i < 6
  · have h2 : i < 32 := by omega
    simp [h, h2, hi]
  · simp [h]
theorem amt5 (y : Int32) : y &&& 31 = nI (s5 y) := by
  apply i_ext
  intro i hi
  rw [ib_and, ib_31, ib_nI]
  unfold s5
  rw [show (32 : Nat) = 2 ^ 5 from rfl, Nat.testBit_mod_two_pow, ← ib_tb]
  by_cases h : i < 5
  · have h2 : i < 32 := by omega
    simp [h, h2]
  · simp [h]
theorem sm6 : ∀ k, k < 64 → ((BitVec.ofNat 64 k).smod 64#64).toNat = k := by decide
theorem sm5 : ∀ k, k < 32 → ((BitVec.ofNat 32 k).smod 32#32).toNat = k := by decide
theorem lb_shl (x : Int64) (y : Int32) {i : Nat} (hi : i < 64) : lb (j_lshl x y) i = (decide (s6 y ≤ i) && lb x (i - s6 y)) := by
  unfold j_lshl
  rw [amt6]
  show (x.toBitVec <<< ((BitVec.ofNat 64 (s6 y)).smod 64#64)).getLsbD i = _
  rw [BitVec.shiftLeft_eq', sm6 _ (s6_lt y), BitVec.getLsbD_shiftLeft]
  by_cases h : s6 y ≤ i
  · simp [h, hi, lb, Nat.not_lt.mpr h]
  · simp [h, Nat.not_le.mp h]
theorem lb_sshr (x : Int64) (y : Int32) {i : Nat} (hi : i < 64) : lb (j_lshr x y) i = if s6 y + i < 64 then lb x (s6 y + i) else lb x 63 := by
  unfold j_lshr
  rw [amt6]
  show (x.toBitVec.sshiftRight ((BitVec.ofNat 64 (s6 y)).smod 64#64).toNat).getLsbD i = _
  rw [sm6 _ (s6_lt y), BitVec.getLsbD_sshiftRight, BitVec.msb_eq_getLsbD_last]
  by_cases h : s6 y + i < 64 <;> simp [h, lb] <;> omega
theorem um6 : ∀ k, k < 64 → ((BitVec.ofNat 64 k) % 64#64).toNat = k := by decide
theorem um5 : ∀ k, k < 32 → ((BitVec.ofNat 32 k) % 32#32).toNat = k := by decide
theorem lb_ushr (x : Int64) (y : Int32) (i : Nat) : lb (j_lushr x y) i = lb x (s6 y + i) := by
  have h := congrArg Int64.toUInt64 (amt6 y)
  rw [Int64.toUInt64_and] at h
  unfold j_lushr
  rw [h]
  show (x.toBitVec >>> ((BitVec.ofNat 64 (s6 y)) % 64#64)).getLsbD i = _
  rw [BitVec.ushiftRight_eq', um6 _ (s6_lt y), BitVec.getLsbD_ushiftRight]
  rfl
theorem ib_shl (x y : Int32) {i : Nat} (hi : i < 32) : ib (x <<< (y &&& 31)) i = (decide (s5 y ≤ i) && ib x (i - s5 y)) := by
  rw [amt5]
  show (x.toBitVec <<< ((BitVec.ofNat 32 (s5 y)).smod 32#32)).getLsbD i = _
  rw [BitVec.shiftLeft_eq', sm5 _ (s5_lt y), BitVec.getLsbD_shiftLeft]
  by_cases h : s5 y ≤ i
  · simp [h, hi, ib, Nat.not_lt.mpr h]
  · simp [h, Nat.not_le.mp h]
theorem ib_sshr (x y : Int32) {i : Nat} (hi : i < 32) : ib (x >>> (y &&& 31)) i = if s5 y + i < 32 then ib x (s5 y + i) else ib x 31 := by
  rw [amt5]
  show (x.toBitVec.sshiftRight ((BitVec.ofNat 32 (s5 y)).smod 32#32).toNat).getLsbD i = _
  rw [sm5 _ (s5_lt y), BitVec.getLsbD_sshiftRight, BitVec.msb_eq_getLsbD_last]
  by_cases h : s5 y + i < 32 <;> simp [h, ib] <;> omega
theorem ib_ushr (x y : Int32) (i : Nat) : ib (j_iushr x y) i = ib x (s5 y + i) := by
  have h := congrArg Int32.toUInt32 (amt5 y)
  rw [Int32.toUInt32_and] at h
  unfold j_iushr
  rw [h]
  show (x.toBitVec >>> ((BitVec.ofNat 32 (s5 y)) % 32#32)).getLsbD i = _
  rw [BitVec.ushiftRight_eq', um5 _ (s5_lt y), BitVec.getLsbD_ushiftRight]
  rfl
