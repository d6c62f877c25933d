def scr (τ : MS) (f : Int32) (p : Int64) : MS := mu_place (mu_faultWhat τ f) p
theorem lb_frame {i : Nat} (hi : i < 64) : lb 281474976706560 i = (decide (12 ≤ i) && decide (i < 48)) := by
  show lb (lN (2 ^ 12 * (2 ^ 36 - 1))) i = _
  rw [lb_lN, Nat.testBit_two_pow_mul, Nat.testBit_two_pow_sub_one]
  by_cases h : 12 ≤ i
  · by_cases h2 : i < 48
    · have h3 : i - 12 < 36 := by omega
      simp [h, h2, h3, hi]
    · have h3 : ¬ i - 12 < 36 := by omega
      simp [h2, h3]
  · simp [h]
def FR (x : Int64) : Nat := lU x / 2 ^ 12 % 2 ^ 36 * 2 ^ 12
theorem FR_lt (x : Int64) : FR x < 2 ^ 48 := by unfold FR; omega
theorem frame_eq (x : Int64) : x &&& 281474976706560 = lN (FR x) := by
  apply l_ext
  intro i hi
  unfold FR
  rw [lb_and, lb_frame hi, lb_lN, Nat.mul_comm, Nat.testBit_two_pow_mul, Nat.testBit_mod_two_pow, Nat.testBit_div_two_pow, lb_tb]
  by_cases h : 12 ≤ i
  · have h1 : i - 12 + 12 = i := by omega
    by_cases h2 : i < 48
    · have h3 : i - 12 < 36 := by omega
      simp [h, h2, h3, hi]
    · have h3 : ¬ i - 12 < 36 := by omega
      simp [h2, h3]
  · simp [h]
theorem frameM (x : Int64) : (F_X12_bits x 47 12).map (fun v => j_lshl v 12) = some (lN (FR x)) := by
  have h := bits_eq x (h := 47) (l := 12) (by decide) (by decide)
  rw [show F_X12_bits x 47 12 = _ from h]
  have hl : lU x / 2 ^ 12 % 2 ^ (47 + 1 - 12) < 2 ^ 36 := Nat.mod_lt _ (by decide)
  show some (j_lshl (lN (lU x / 2 ^ 12 % 2 ^ (47 + 1 - 12))) 12) = _
  rw [show (12 : Int32) = nI 12 from rfl, lU_shl (by decide) (by omega)]
  rfl
theorem frameB (x : Int64) : ∃ v, F_X12_bits x 47 12 = some v ∧ j_lshl v 12 = lN (FR x) := by
  have h := frameM x
  cases hb : F_X12_bits x 47 12 with
  | none => rw [hb] at h; cases h
  | some v => rw [hb] at h; exact ⟨v, rfl, Option.some.inj h⟩
theorem idxX (a : Int64) {s : Nat} (hs : s < 55) : j_lushr a (nI s) &&& 511 = lN (lU a / 2 ^ s % 512) := by
  apply l_ext
  intro i hi
  rw [lb_and, lb_ushr, s6_nI (by omega), show (511 : Int64) = lN (2 ^ 9 - 1) from rfl, lb_lN, lb_lN, Nat.testBit_two_pow_sub_one, show (512 : Nat) = 2 ^ 9 from rfl, Nat.testBit_mod_two_pow, Nat.testBit_div_two_pow, lb_tb, Nat.add_comm]
  cases (lU a).testBit (i + s) <;> simp [hi]
theorem top30 (a : Int64) : F_X12_bits a 63 30 = some (j_lushr a 30) := by
  have h := bits_eq a (h := 63) (l := 30) (by decide) (by decide)
  rw [show F_X12_bits a 63 30 = _ from h]
  congr 1
  apply lU_inj
  have h1 := lU_lt a
  rw [lU_lN, show (30 : Int32) = nI 30 from rfl, lU_ushrG _ (by decide)]
  show lU a / 2 ^ 30 % 2 ^ 34 % 2 ^ 64 = lU a / 2 ^ 30
  omega
theorem holdsG (σ : XS) {p n : Nat} (hp : p < 2 ^ 62) (hn : n ≤ 8) : F_X4_holds σ (lN p) (nI n) = decide (p + n ≤ 65536) := by
  unfold F_X4_holds
  rw [if_neg (l_lt0 (by omega)), show (65536 : Int32) = nI 65536 from rfl, pk_sub (by omega), nI_toL (by omega)]
  have q := pk_lLT (a := 65536 - n) (b := p) (by omega) (by omega)
  by_cases h : p + n ≤ 65536
  · rw [if_neg (fun x => by have := q.mp x; omega)]; simp [h]
  · rw [if_pos (q.mpr (by omega))]; simp [h]
theorem isBelowG {p L : Nat} (hp : p < 2 ^ 62) (hL : L < 2 ^ 62) : F_X12_isBelow (lN p) (lN L) = decide (p < L) := by
  unfold F_X12_isBelow
  rw [if_neg (l_lt0 (by omega))]
  have q := pk_lLE (a := L) (b := p) (by omega) (by omega)
  by_cases h : p < L
  · rw [if_neg (fun x => by have := q.mp x; omega)]; simp [h]
  · rw [if_pos (q.mpr (by omega))]; simp [h]
theorem bool_ushr (e : Int64) {k : Nat} (hk : k < 64) : (j_lushr e (nI k) &&& 1 = 0) ↔ lb e k = false := by
  rw [lU_ushr1 _ hk]
  cases lb e k <;> decide
theorem may_eq (τ : MS) (a e : Int64) {what frm : Nat} (hw : what < 3) (hf : frm < 2) (d : Int32) (blk : Bool) : F_X12_leads_c243 τ a (nI what) (nI frm) d e blk (F_X12_bit e 6) = F_X12_leads_c364 τ a (nI what) (nI frm) d e blk (F_X10_permits e (nI what) (nI frm)) := by
  unfold F_X12_leads_c243 F_X12_leads_c252 F_X12_leads_c268 F_X12_leads_c287 F_X12_leads_c288 F_X12_leads_c290 F_X12_leads_c310 F_X12_leads_c330 F_X12_leads_c332 F_X12_leads_c357 F_X12_leads_c361 F_X12_leads_c362
  unfold F_X10_permits F_X10_permits_c16 F_X10_permits_c34 F_X10_permits_c101
  rw [show F_X12_bit e 6 = lb e 6 from bit_eq e (k := 6) (by decide), show F_X12_bit e 7 = lb e 7 from bit_eq e (k := 7) (by decide), show F_X12_bit e 53 = lb e 53 from bit_eq e (k := 53) (by decide), show F_X12_bit e 54 = lb e 54 from bit_eq e (k := 54) (by decide)]
  rw [show j_lushr e 6 &&& 1 = lN (lb e 6).toNat from lU_ushr1 e (k := 6) (by decide), show j_lushr e 7 &&& 1 = lN (lb e 7).toNat from lU_ushr1 e (k := 7) (by decide), show j_lushr e 53 &&& 1 = lN (lb e 53).toNat from lU_ushr1 e (k := 53) (by decide), show j_lushr e 54 &&& 1 = lN (lb e 54).toNat from lU_ushr1 e (k := 54) (by decide)]
  have h3 : what = 0 ∨ what = 1 ∨ what = 2 := by omega
  have h2 : frm = 0 ∨ frm = 1 := by omega
  generalize F_X12_leads_c364 τ a = G
  cases lb e 6 <;> cases lb e 7 <;> cases lb e 53 <;> cases lb e 54 <;> rcases h3 with rfl | rfl | rfl <;> rcases h2 with rfl | rfl <;> rfl
theorem lb_low {s : Nat} (hs : s < 64) {i : Nat} (hi : i < 64) : lb (j_lshl 1 (nI s) - 1) i = decide (i < s) := by
  have h := ones_bits (c := s) (by omega) hi
  unfold F_X1_ones at h
  rw [show (64 : Int32) = nI 64 from rfl, if_pos (nI_lt hs (by omega))] at h
  exact h
def plc (e a : Int64) (s : Nat) : Nat := 2 ^ s * (lU e / 2 ^ s % 2 ^ (48 - s)) + lU a % 2 ^ s
theorem plc_bits (e a : Int64) {s : Nat} (i : Nat) : (plc e a s).testBit i = if i < s then lb a i else (decide (i < 48) && lb e i) := by
  unfold plc
  rw [Nat.testBit_two_pow_mul_add _ (Nat.mod_lt _ (Nat.pos_of_ne_zero (by simp))), Nat.testBit_mod_two_pow, Nat.testBit_mod_two_pow, Nat.testBit_div_two_pow, lb_tb, lb_tb]
  by_cases h : i < s
  · simp [h]
  · have h1 : i - s + s = i := by omega
    rw [if_neg h, if_neg h, h1]
    by_cases h2 : i < 48
    · have h3 : i - s < 48 - s := by omega
      simp [h2, h3]
    · have h3 : ¬ i - s < 48 - s := by omega
      simp [h2, h3]
theorem plc_lt (e a : Int64) {s : Nat} (hs : s < 48) : plc e a s < 2 ^ 48 := by
  unfold plc
  have h1 : lU e / 2 ^ s % 2 ^ (48 - s) < 2 ^ (48 - s) := Nat.mod_lt _ (Nat.pos_of_ne_zero (by simp))
  have h2 : lU a % 2 ^ s < 2 ^ s := Nat.mod_lt _ (Nat.pos_of_ne_zero (by simp))
  have h3 : 2 ^ 48 = 2 ^ s * 2 ^ (48 - s) := by rw [← Nat.pow_add]; congr 1; omega
  rw [h3]
  have h4 : 2 ^ s * (lU e / 2 ^ s % 2 ^ (48 - s) + 1) ≤ 2 ^ s * 2 ^ (48 - s) := Nat.mul_le_mul_left _ h1
  rw [Nat.mul_add] at h4
  omega
theorem plcX (e a : Int64) {s : Nat} (hs : 12 ≤ s) (hs2 : s < 48) : ((e &&& 281474976706560) &&& ((j_lshl 1 (nI s) - 1) ^^^ (-1))) ||| (a &&& (j_lshl 1 (nI s) - 1)) = lN (plc e a s) := by
  apply l_ext
  intro i hi
  rw [lb_lN, plc_bits, lb_or, lb_and, lb_and, lb_and, lb_frame hi, xor_m1 _ hi, lb_low (by omega) hi]
  by_cases h : i < s
  · simp [h, hi]
  · have h1 : 12 ≤ i := by omega
    by_cases h2 : i < 48
    · simp [h, h1, h2, hi]
    · simp [h, h2]
theorem plcM (e a : Int64) {s : Nat} (hs2 : s < 48) (hs1 : 1 ≤ s) : j_lshl (lN (lU e / 2 ^ s % 2 ^ (48 - s))) (nI s) ||| lN (lU a % 2 ^ s) = lN (plc e a s) := by
  apply l_ext
  intro i hi
  rw [lb_lN, plc_bits, lb_or, lb_shl _ _ hi, s6_nI (by omega), lb_lN, lb_lN, Nat.testBit_mod_two_pow, Nat.testBit_mod_two_pow, Nat.testBit_div_two_pow, lb_tb, lb_tb]
  by_cases h : i < s
  · have h1 : ¬ s ≤ i := by omega
    simp [h, h1, hi]
  · have h1 : s ≤ i := by omega
    have h2 : i - s + s = i := by omega
    have h4 : i - s < 64 := by omega
    by_cases h3 : i < 48
    · have h5 : i - s < 48 - s := by omega
      simp [h, h1, h2, h3, h4, h5, hi]
    · have h5 : ¬ i - s < 48 - s := by omega
      simp [h, h3, h5]
theorem plc_mod (e a : Int64) {s : Nat} (hs : 12 ≤ s) : plc e a s % 4096 = lU a % 4096 := by
  unfold plc
  obtain ⟨q, rfl⟩ := Nat.exists_eq_add_of_le hs
  rw [Nat.pow_add, Nat.mul_assoc]
  have h1 : lU a % (2 ^ 12 * 2 ^ q) % 4096 = lU a % 4096 := by
    rw [show (4096 : Nat) = 2 ^ 12 from rfl, Nat.mod_mul_right_mod]
  omega
/-- what the end of a walk answers: the place, or a fault -/
theorem leads_end (τ : MS) (a e : Int64) {what frm : Nat} (hw : what < 3) (hf : frm < 2) (blk : Bool) {d s : Nat} (hd : d < 4) (hs : s = if blk = true then 21 else 12) : F_X12_leads_c214 τ a (nI what) (nI frm) (nI d) e blk = if F_X10_fault e (nI what) (nI frm) = 0 then some (true, mu_place τ (lN (plc e a s))) else some (false, mu_faultWhat τ (F_X10_fault e (nI what) (nI frm) + nI d)) := by
  unfold F_X12_leads_c214 F_X10_fault F_X12_wrong
  rw [may_eq τ a e hw hf, show F_X12_bit e 10 = lb e 10 from bit_eq e (k := 10) (by decide), show j_lushr e 10 &&& 1 = lN (lb e 10).toNat from lU_ushr1 e (k := 10) (by decide)]
  cases lb e 10
  · rfl
  · show F_X12_leads_c364 τ a (nI what) (nI frm) (nI d) e blk _ = if (if F_X10_permits e (nI what) (nI frm) = true then (0 : Int32) else 12) = 0 then _ else some (false, mu_faultWhat τ ((if F_X10_permits e (nI what) (nI frm) = true then (0 : Int32) else 12) + nI d))
    unfold F_X12_leads_c364 F_X12_wrong
    cases F_X10_permits e (nI what) (nI frm)
    · rfl
    · rw [iff_t, iff_t, if_pos rfl]
      cases blk
      · rw [iff_f] at hs
        subst hs
        rw [iff_f, show F_X12_bits e 47 12 = _ from bits_eq e (h := 47) (l := 12) (by decide) (by decide), Option.bind_some, show F_X12_bits a 11 0 = _ from bits_eq a (h := 11) (l := 0) (by decide) (by decide), Option.bind_some]
        have h := plcM e a (s := 12) (by decide) (by decide)
        rw [← h]
        simp only [Nat.pow_zero, Nat.div_one]
        rfl
      · rw [iff_t] at hs
        subst hs
        rw [iff_t, show F_X12_bits e 47 21 = _ from bits_eq e (h := 47) (l := 21) (by decide) (by decide), Option.bind_some, show F_X12_bits a 20 0 = _ from bits_eq a (h := 20) (l := 0) (by decide) (by decide), Option.bind_some]
        have h := plcM e a (s := 21) (by decide) (by decide)
        rw [← h]
        simp only [Nat.pow_zero, Nat.div_one]
        rfl
theorem fault_cases (e : Int64) (w f : Int32) : F_X10_fault e w f = 0 ∨ F_X10_fault e w f = nI 8 ∨ F_X10_fault e w f = nI 12 := by
  unfold F_X10_fault
  split
  · exact Or.inr (Or.inl rfl)
  · split
    · exact Or.inl rfl
    · exact Or.inr (Or.inr rfl)
