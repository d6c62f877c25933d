def pS (s i : Nat) : Nat := if i % (2 * s) < s then i + s else i - s
theorem pS_lt {s i : Nat} (hs : s = 1 ∨ s = 2 ∨ s = 4 ∨ s = 8 ∨ s = 16) (hi : i < 64) : pS s i < 64 := by
  unfold pS
  rcases hs with e | e | e | e | e <;> subst e <;> split <;> omega
theorem sw_bits (x : Int64) {m : Int64} {s : Nat} (hs : s = 1 ∨ s = 2 ∨ s = 4 ∨ s = 8 ∨ s = 16) (hm : ∀ i, i < 64 → lb m i = decide (i % (2 * s) < s)) {i : Nat} (hi : i < 64) : lb (j_lshl (x &&& m) (nI s) ||| (j_lushr x (nI s) &&& m)) i = lb x (pS s i) := by
  rw [lb_or, lb_shl _ _ hi, lb_and, lb_and, lb_ushr, s6_nI (by omega), hm i hi]
  unfold pS
  by_cases h : i % (2 * s) < s
  · rw [if_pos h, Nat.add_comm s i]
    by_cases h2 : s ≤ i
    · rw [hm (i - s) (by omega)]
      have h3 : ¬ (i - s) % (2 * s) < s := by
        rcases hs with e | e | e | e | e <;> subst e <;> omega
      simp [h, h3]
    · simp [h, h2]
  · have h2 : s ≤ i := by
      rcases hs with e | e | e | e | e <;> subst e <;> omega
    rw [if_neg h, hm (i - s) (by omega)]
    have h3 : (i - s) % (2 * s) < s := by
      rcases hs with e | e | e | e | e <;> subst e <;> omega
    simp [h, h2, h3]
theorem m1b : ∀ i, i < 64 → lb 6148914691236517205 i = decide (i % (2 * 1) < 1) := by decide +kernel
theorem m2b : ∀ i, i < 64 → lb 3689348814741910323 i = decide (i % (2 * 2) < 2) := by decide +kernel
theorem m4b : ∀ i, i < 64 → lb 1085102592571150095 i = decide (i % (2 * 4) < 4) := by decide +kernel
theorem m8b : ∀ i, i < 64 → lb 71777214294589695 i = decide (i % (2 * 8) < 8) := by decide +kernel
theorem m16b : ∀ i, i < 64 → lb 281470681808895 i = decide (i % (2 * 16) < 16) := by decide +kernel
theorem m48b : ∀ i, i < 64 → lb 4294901760 i = decide (16 ≤ i ∧ i < 32) := by decide +kernel
def hS (i : Nat) : Nat := 16 * (3 - i / 16) + i % 16
theorem rb_bits (x : Int64) {i : Nat} (hi : i < 64) : lb (F_J13_reverseBytes_067f4 x) i = lb x (pS 8 (hS i)) := by
  unfold F_J13_reverseBytes_067f4 F_J13_reverseBytes_067f4_c18
  have hsw : ∀ k, k < 64 → lb (j_lshl (x &&& 71777214294589695) 8 ||| (j_lushr x 8 &&& 71777214294589695)) k = lb x (pS 8 k) := fun k hk => sw_bits x (by omega) m8b hk
  have hh : hS i < 64 := by unfold hS; omega
  rw [← hsw (hS i) hh]
  generalize j_lshl (x &&& 71777214294589695) 8 ||| (j_lushr x 8 &&& 71777214294589695) = y
  rw [show (48 : Int32) = nI 48 from rfl, show (16 : Int32) = nI 16 from rfl, lb_or, lb_or, lb_or, lb_shl _ _ hi, lb_shl _ _ hi, lb_and, lb_and, lb_ushr, lb_ushr, s6_nI (by decide), s6_nI (by decide), m48b i hi]
  unfold hS
  by_cases h1 : i < 16
  · rw [m48b (i - 16) (by omega), show 16 * (3 - i / 16) + i % 16 = 48 + i from by omega]
    have a1 : ¬ 48 ≤ i := by omega
    have a2 : ¬ 16 ≤ i := by omega
    simp [a1, a2]
  · by_cases h2 : i < 32
    · rw [m48b (i - 16) (by omega), show 16 * (3 - i / 16) + i % 16 = 16 + i from by omega, lb_big y (i := 48 + i) (by omega)]
      have a1 : ¬ 48 ≤ i := by omega
      have a2 : ¬ 16 ≤ i - 16 := by omega
      have a3 : 16 ≤ i := by omega
      simp [a1, a2, a3, h2]
    · by_cases h3 : i < 48
      · rw [m48b (i - 16) (by omega), show 16 * (3 - i / 16) + i % 16 = i - 16 from by omega, lb_big y (i := 48 + i) (by omega)]
        have a1 : ¬ 48 ≤ i := by omega
        have a2 : 16 ≤ i - 16 := by omega
        have a3 : 16 ≤ i := by omega
        have a4 : i - 16 < 32 := by omega
        simp [a1, a2, a3, a4, h2]
      · rw [m48b (i - 16) (by omega), show 16 * (3 - i / 16) + i % 16 = i - 48 from by omega, lb_big y (i := 48 + i) (by omega)]
        have a1 : 48 ≤ i := by omega
        have a4 : ¬ i - 16 < 32 := by omega
        simp [a1, a4, h2]
theorem hS_lt {i : Nat} (hi : i < 64) : hS i < 64 := by unfold hS; omega
theorem rev_ix : ∀ i, i < 64 → pS 1 (pS 2 (pS 4 (pS 8 (hS i)))) = 63 - i := by decide +kernel
theorem rev_bits (x : Int64) {i : Nat} (hi : i < 64) : lb (F_J13_reverse_067f4 x) i = lb x (63 - i) := by
  unfold F_J13_reverse_067f4 F_J13_reverse_067f4_c16 F_J13_reverse_067f4_c32
  have h8 := pS_lt (s := 8) (by omega) (hS_lt hi)
  have h4 := pS_lt (s := 4) (by omega) h8
  have h2 := pS_lt (s := 2) (by omega) h4
  rw [rb_bits _ hi, show (4 : Int32) = nI 4 from rfl, show (2 : Int32) = nI 2 from rfl, show (1 : Int32) = nI 1 from rfl, sw_bits _ (by omega) m4b h8, sw_bits _ (by omega) m2b h4, sw_bits _ (by omega) m1b h2, rev_ix i hi]
theorem pairs_bits (x : Int64) {i : Nat} (hi : i < 64) : lb (F_X7_bytesOfPairs x) i = lb x (pS 8 i) := by
  unfold F_X7_bytesOfPairs
  exact sw_bits x (s := 8) (by omega) m8b hi
theorem fours_bits (x : Int64) {i : Nat} (hi : i < 64) : lb (F_X7_bytesOfFours x) i = lb x (pS 8 (pS 16 i)) := by
  unfold F_X7_bytesOfFours F_X7_bytesOfFours_c5
  rw [show (16 : Int32) = nI 16 from rfl, sw_bits _ (by omega) m16b hi, pairs_bits _ (pS_lt (by omega) hi)]
def bp (u k : Nat) : Nat := k / u * u + u - 1 - k % u
theorem bp2 : ∀ i, i < 64 → pS 8 i = 8 * bp 2 (i / 8) + i % 8 := by decide +kernel
theorem bp4 : ∀ i, i < 64 → pS 8 (pS 16 i) = 8 * bp 4 (i / 8) + i % 8 := by decide +kernel
theorem bp8 : ∀ i, i < 64 → pS 8 (hS i) = 8 * bp 8 (i / 8) + i % 8 := by decide +kernel
theorem bp_inv : ∀ u, (u = 2 ∨ u = 4 ∨ u = 8) → ∀ k, k < 8 → bp u k < 8 ∧ (bp u (bp u k) = k) := by
  intro u hu
  rcases hu with e | e | e <;> subst e <;> decide
theorem bp_w : ∀ u, (u = 2 ∨ u = 4) → ∀ k, k < 4 → bp u k < 4 := by
  intro u hu
  rcases hu with e | e <;> subst e <;> decide
