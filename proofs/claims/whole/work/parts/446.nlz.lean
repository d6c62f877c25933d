theorem lshift {X l s : Nat} (h1 : 2 ^ l ≤ X) (h2 : X < 2 ^ (l + 1)) (hX : 2 ^ s ≤ X) : s ≤ l ∧ 2 ^ (l - s) ≤ X / 2 ^ s ∧ X / 2 ^ s < 2 ^ (l - s + 1) := by
  have h3 : s < l + 1 := (Nat.pow_lt_pow_iff_right (a := 2) (by decide)).mp (by omega)
  have hp : 0 < 2 ^ s := Nat.pos_of_ne_zero (by simp)
  refine ⟨by omega, ?_, ?_⟩
  · rw [Nat.le_div_iff_mul_le hp, ← Nat.pow_add, show l - s + s = l from by omega]
    exact h1
  · rw [Nat.div_lt_iff_lt_mul hp, ← Nat.pow_add, show l - s + 1 + s = l + 1 from by omega]
    exact h2
theorem iushr_nI {X n : Nat} (hX : X < 2 ^ 32) (hn : n < 32) : j_iushr (nI X) (nI n) = nI (X / 2 ^ n) := by
  apply iU_inj
  have : X / 2 ^ n ≤ X := Nat.div_le_self _ _
  rw [iU_ushr hn, iU_nI, iU_nI, Nat.mod_eq_of_lt hX, Nat.mod_eq_of_lt (Nat.lt_of_le_of_lt this hX)]
theorem addneg {n c : Nat} {d : Int32} (hd : -(nI c) = d) (h : c ≤ n) : nI n + d = nI (n - c) := by
  rw [← hd, ← Int32.sub_eq_add_neg, pk_sub h]
theorem z73 {X n l : Nat} (h1 : 2 ^ l ≤ X) (h2 : X < 2 ^ (l + 1)) (h4 : X < 4) (hn : l ≤ n) : F_J6_numberOfLeadingZeros_0f7a4_c73 (nI X) (nI n) = nI (n - l) := by
  unfold F_J6_numberOfLeadingZeros_0f7a4_c73
  have hl : l < 2 := (Nat.pow_lt_pow_iff_right (a := 2) (by decide)).mp (by omega)
  rw [show (1 : Int32) = nI 1 from rfl, iushr_nI (by omega) (by decide)]
  have hl2 : l = 0 ∨ l = 1 := by omega
  rcases hl2 with e | e <;> subst e
  · rw [show X / 2 ^ 1 = 0 from by omega, pk_sub (by omega)]
  · rw [show X / 2 ^ 1 = 1 from by omega, pk_sub (by omega)]
theorem z61 {X n l : Nat} (h1 : 2 ^ l ≤ X) (h2 : X < 2 ^ (l + 1)) (h4 : X < 16) (hn : l ≤ n) : F_J6_numberOfLeadingZeros_0f7a4_c61 (nI X) (nI n) = nI (n - l) := by
  unfold F_J6_numberOfLeadingZeros_0f7a4_c61
  have q : nI X < (4 : Int32) ↔ X < 4 := nI_ltI (b := 4) (by omega) (by omega)
  by_cases h : X < 4
  · rw [if_pos (q.mpr h)]
    exact z73 h1 h2 h hn
  · obtain ⟨a1, a2, a3⟩ := lshift (s := 2) h1 h2 (by omega)
    rw [if_neg (fun x => h (q.mp x)), show (2 : Int32) = nI 2 from rfl, iushr_nI (by omega) (by decide), addneg (c := 2) rfl (by omega), z73 a2 a3 (by omega) (by omega)]
    congr 1
    omega
theorem z48 {X n l : Nat} (h1 : 2 ^ l ≤ X) (h2 : X < 2 ^ (l + 1)) (h4 : X < 256) (hn : l ≤ n) : F_J6_numberOfLeadingZeros_0f7a4_c48 (nI X) (nI n) = nI (n - l) := by
  unfold F_J6_numberOfLeadingZeros_0f7a4_c48
  have q : nI X < (16 : Int32) ↔ X < 16 := nI_ltI (b := 16) (by omega) (by omega)
  by_cases h : X < 16
  · rw [if_pos (q.mpr h)]
    exact z61 h1 h2 h hn
  · obtain ⟨a1, a2, a3⟩ := lshift (s := 4) h1 h2 (by omega)
    rw [if_neg (fun x => h (q.mp x)), show (4 : Int32) = nI 4 from rfl, iushr_nI (by omega) (by decide), addneg (c := 4) rfl (by omega), z61 a2 a3 (by omega) (by omega)]
    congr 1
    omega
theorem z33 {X n l : Nat} (h1 : 2 ^ l ≤ X) (h2 : X < 2 ^ (l + 1)) (h4 : X < 65536) (hn : l ≤ n) : F_J6_numberOfLeadingZeros_0f7a4_c33 (nI X) (nI n) = nI (n - l) := by
  unfold F_J6_numberOfLeadingZeros_0f7a4_c33
  have q : nI X < (256 : Int32) ↔ X < 256 := nI_ltI (b := 256) (by omega) (by omega)
  by_cases h : X < 256
  · rw [if_pos (q.mpr h)]
    exact z48 h1 h2 h hn
  · obtain ⟨a1, a2, a3⟩ := lshift (s := 8) h1 h2 (by omega)
    rw [if_neg (fun x => h (q.mp x)), show (8 : Int32) = nI 8 from rfl, iushr_nI (by omega) (by decide), addneg (c := 8) rfl (by omega), z48 a2 a3 (by omega) (by omega)]
    congr 1
    omega
theorem nlz32 {X l : Nat} (h1 : 2 ^ l ≤ X) (h2 : X < 2 ^ (l + 1)) (hX : X < 2 ^ 32) : F_J6_numberOfLeadingZeros_0f7a4 (nI X) = nI (31 - l) := by
  unfold F_J6_numberOfLeadingZeros_0f7a4
  have hl : l < 32 := (Nat.pow_lt_pow_iff_right (a := 2) (by decide)).mp (by omega)
  have hX0 : 0 < X := Nat.lt_of_lt_of_le (Nat.pos_of_ne_zero (by simp)) h1
  by_cases h31 : X < 2 ^ 31
  · rw [if_pos (show (0 : Int32) < nI X from (nI_ltI (a := 0) (by omega) h31).mpr hX0)]
    have q : nI X < (65536 : Int32) ↔ X < 65536 := nI_ltI (b := 65536) h31 (by omega)
    by_cases h : X < 65536
    · rw [if_pos (q.mpr h)]
      exact z33 (n := 31) h1 h2 h (by omega)
    · obtain ⟨a1, a2, a3⟩ := lshift (s := 16) h1 h2 (by omega)
      rw [if_neg (fun x => h (q.mp x)), show (16 : Int32) = nI 16 from rfl, iushr_nI (by omega) (by decide), show (31 : Int32) + -nI 16 = nI 15 from rfl, z33 a2 a3 (by omega) (by omega)]
      congr 1
      omega
  · have hneg : nI X < 0 := (neg_iff _).mpr (by
      rw [iU_nI, Nat.mod_eq_of_lt hX, Nat.testBit_eq_decide_div_mod_eq]
      exact decide_eq_true (by omega))
    have hl31 : l = 31 := by
      have : 31 < l + 1 := (Nat.pow_lt_pow_iff_right (a := 2) (by decide)).mp (by omega)
      omega
    subst hl31
    rw [if_neg (fun q => Int32.lt_irrefl (Int32.lt_trans hneg q)), if_neg (fun q => by rw [q] at hneg; exact absurd hneg (by decide))]
    rfl
theorem nlz64 {a : Int64} {j : Nat} (h1 : lU a < 2 ^ j) (h2 : j = 0 ∨ 2 ^ (j - 1) ≤ lU a) (hj : j ≤ 64) : F_J13_numberOfLeadingZeros_95d88 a = nI (64 - j) := by
  have hA := lU_lt a
  unfold F_J13_numberOfLeadingZeros_95d88 F_J13_numberOfLeadingZeros_95d88_c6
  have eh : (j_lushr a 32).toInt32 = nI (lU a / 2 ^ 32) := by
    apply iU_inj
    rw [iU_l2i, show (32 : Int32) = nI 32 from rfl, lU_ushrG _ (by decide), iU_nI]
  have el : a.toInt32 = nI (lU a % 2 ^ 32) := by
    apply iU_inj
    rw [iU_l2i, iU_nI, Nat.mod_mod]
  rw [eh, el]
  have q : nI (lU a / 2 ^ 32) = (0 : Int32) ↔ lU a / 2 ^ 32 = 0 := by
    constructor
    · intro h
      have := congrArg iU h
      rw [iU_nI, show iU 0 = 0 from rfl] at this
      omega
    · intro h
      rw [h]
      rfl
  rcases h2 with e | h2
  · subst e
    have h0 : lU a = 0 := by omega
    rw [h0]
    rfl
  · by_cases hh : lU a / 2 ^ 32 = 0
    · rw [if_pos (q.mpr hh), Nat.mod_eq_of_lt (by omega)]
      have hj1 : 1 ≤ j := by
        rcases Nat.eq_zero_or_pos j with e | e
        · subst e
          rw [Nat.pow_zero] at h1
          have : 2 ^ (0 - 1) = 1 := rfl
          omega
        · exact e
      have hl : j - 1 < 32 := (Nat.pow_lt_pow_iff_right (a := 2) (by decide)).mp (by omega)
      rw [nlz32 h2 (by rw [show j - 1 + 1 = j from by omega]; exact h1) (by omega), show (32 : Int32) = nI 32 from rfl, nI_add]
      congr 1
      omega
    · rw [if_neg (fun x => hh (q.mp x))]
      have h32 : 2 ^ 32 ≤ lU a := by omega
      have hj1 : 32 < j := (Nat.pow_lt_pow_iff_right (a := 2) (by decide)).mp (by omega)
      obtain ⟨a1, a2, a3⟩ := lshift (s := 32) h2 (by rw [show j - 1 + 1 = j from by omega]; exact h1) h32
      rw [nlz32 a2 a3 (by omega)]
      congr 1
      omega
theorem xzeros {a : Int64} {j : Nat} {w : Bool} (h1 : lU a < 2 ^ j) (h2 : j = 0 ∨ 2 ^ (j - 1) ≤ lU a) (hj : j ≤ wd w) : F_X7_zerosAbove a w = lN (wd w - j) := by
  unfold F_X7_zerosAbove
  have hw := wd_le w
  rw [nlz64 h1 h2 (by omega), xwidth, show (64 : Int32) = nI 64 from rfl, pk_sub (by omega), pk_sub (by omega), nI_toL (by omega)]
  congr 1
  omega
theorem bl_of {a : Int64} {j : Nat} (h1 : ∀ i, j ≤ i → lb a i = false) (h2 : j = 0 ∨ lb a (j - 1) = true) : lU a < 2 ^ j ∧ (j = 0 ∨ 2 ^ (j - 1) ≤ lU a) := by
  refine ⟨Nat.lt_pow_two_of_testBit _ (fun i hi => h1 i hi), ?_⟩
  rcases h2 with h | h
  · exact Or.inl h
  · exact Or.inr (Nat.ge_two_pow_of_testBit h)
