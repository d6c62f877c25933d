theorem tN {w p c k : Nat} (hk : k < 2 ^ 31) (hc : c ≤ 31) (h : fN w p c ≠ k) : ¬ nI (fN w p c) = nI k := fun q => h ((eqN (Nat.lt_of_lt_of_le (fN_lt w p c) (Nat.pow_le_pow_right (by decide) hc)) hk).mp q)
theorem tY {w p c k : Nat} (h : fN w p c = k) : nI (fN w p c) = nI k := by rw [h]
theorem bs (o : Option MS) : (o.bind fun v => some v) = o := by cases o <;> rfl
theorem bse (o : Option (Bool × XS)) : (o.bind fun v => some (v.1, v.2)) = o := by cases o <;> rfl
theorem sk0 {τ : MS} (h1 : fN (iU (m_ins τ)) 23 6 ≠ 34) (h2 : fN (iU (m_ins τ)) 24 5 ≠ 11 ∨ (iU (m_ins τ)).testBit 21 = true) : F_X12_does τ = F_X12_does_c49 τ := by
  unfold F_X12_does
  rw [fL_28_23, Option.bind_some, if_neg (show ¬ nI (fN (iU (m_ins τ)) 23 6) = (34 : Int32) from tN (k := 34) (by decide) (by decide) h1), fL_28_24, Option.bind_some]
  by_cases h : fN (iU (m_ins τ)) 24 5 = 11
  · rw [if_pos (show nI (fN (iU (m_ins τ)) 24 5) = (11 : Int32) from tY h), oL_21, h2.resolve_left (fun q => q h), iff_t]
  · rw [if_neg (show ¬ nI (fN (iU (m_ins τ)) 24 5) = (11 : Int32) from tN (k := 11) (by decide) (by decide) h)]
theorem sk49 {τ : MS} (h1 : fN (iU (m_ins τ)) 24 5 ≠ 10) (h2 : fN (iU (m_ins τ)) 23 6 ≠ 36) (h3 : fN (iU (m_ins τ)) 23 6 ≠ 37) (h4 : fN (iU (m_ins τ)) 24 5 ≠ 16) (h5 : fN (iU (m_ins τ)) 23 6 ≠ 38) (h6 : fN (iU (m_ins τ)) 23 8 ≠ 39 ∨ (iU (m_ins τ)).testBit 21 = true) : F_X12_does_c49 τ = F_X12_does_c178 τ := by
  unfold F_X12_does_c49
  rw [fL_28_24, Option.bind_some, if_neg (show ¬ nI (fN (iU (m_ins τ)) 24 5) = (10 : Int32) from tN (k := 10) (by decide) (by decide) h1), fL_28_23, Option.bind_some, if_neg (show ¬ nI (fN (iU (m_ins τ)) 23 6) = (36 : Int32) from tN (k := 36) (by decide) (by decide) h2), Option.bind_some, if_neg (show ¬ nI (fN (iU (m_ins τ)) 23 6) = (37 : Int32) from tN (k := 37) (by decide) (by decide) h3), Option.bind_some, if_neg (show ¬ nI (fN (iU (m_ins τ)) 24 5) = (16 : Int32) from tN (k := 16) (by decide) (by decide) h4), Option.bind_some, if_neg (show ¬ nI (fN (iU (m_ins τ)) 23 6) = (38 : Int32) from tN (k := 38) (by decide) (by decide) h5), fL_30_23, Option.bind_some]
  by_cases h : fN (iU (m_ins τ)) 23 8 = 39
  · rw [if_pos (show nI (fN (iU (m_ins τ)) 23 8) = (39 : Int32) from tY h), oL_21, h6.resolve_left (fun q => q h), iff_t]
  · rw [if_neg (show ¬ nI (fN (iU (m_ins τ)) 23 8) = (39 : Int32) from tN (k := 39) (by decide) (by decide) h)]
theorem sk178 {τ : MS} (h2 : fN (iU (m_ins τ)) 21 9 ≠ 212 ∨ (iU (m_ins τ)).testBit 11 = true) : F_X12_does_c178 τ = F_X12_does_c208 τ := by
  unfold F_X12_does_c178
  rw [fL_29_21, Option.bind_some]
  by_cases h : fN (iU (m_ins τ)) 21 9 = 212
  · rw [if_pos (show nI (fN (iU (m_ins τ)) 21 9) = (212 : Int32) from tY h), oL_11, h2.resolve_left (fun q => q h), iff_t]
  · rw [if_neg (show ¬ nI (fN (iU (m_ins τ)) 21 9) = (212 : Int32) from tN (k := 212) (by decide) (by decide) h)]
theorem sk208 {τ : MS} (h2 : fN (iU (m_ins τ)) 21 9 ≠ 466 ∨ (iU (m_ins τ)).testBit 10 = true ∨ (iU (m_ins τ)).testBit 4 = true) : F_X12_does_c208 τ = F_X12_does_c246 τ := by
  unfold F_X12_does_c208
  rw [fL_29_21, Option.bind_some]
  by_cases h : fN (iU (m_ins τ)) 21 9 = 466
  · rw [if_pos (show nI (fN (iU (m_ins τ)) 21 9) = (466 : Int32) from tY h), oL_10, oL_4]
    rcases h2.resolve_left (fun q => q h) with e | e
    · rw [e, iff_t]
    · rw [e, iff_t]
      cases (iU (m_ins τ)).testBit 10 <;> rfl
  · rw [if_neg (show ¬ nI (fN (iU (m_ins τ)) 21 9) = (466 : Int32) from tN (k := 466) (by decide) (by decide) h)]
theorem sk246 {τ : MS} (h1 : fN (iU (m_ins τ)) 21 10 ≠ 216) (h2 : fN (iU (m_ins τ)) 24 8 ≠ 155 ∨ fN (iU (m_ins τ)) 21 2 ≠ 2 ∨ fN (iU (m_ins τ)) 10 6 ≠ 31) : F_X12_does_c246 τ = F_X12_does_c313 τ := by
  unfold F_X12_does_c246
  rw [fL_30_21, Option.bind_some, if_neg (show ¬ nI (fN (iU (m_ins τ)) 21 10) = (216 : Int32) from tN (k := 216) (by decide) (by decide) h1), fL_31_24, Option.bind_some]
  by_cases h : fN (iU (m_ins τ)) 24 8 = 155
  · rw [if_pos (show nI (fN (iU (m_ins τ)) 24 8) = (155 : Int32) from tY h), fL_22_21, Option.bind_some]
    by_cases g : fN (iU (m_ins τ)) 21 2 = 2
    · rw [if_pos (show nI (fN (iU (m_ins τ)) 21 2) = (2 : Int32) from tY g), fL_15_10, Option.bind_some, if_neg (show ¬ nI (fN (iU (m_ins τ)) 10 6) = (31 : Int32) from tN (k := 31) (by decide) (by decide) ((h2.resolve_left (fun q => q h)).resolve_left (fun q => q g)))]
    · rw [if_neg (show ¬ nI (fN (iU (m_ins τ)) 21 2) = (2 : Int32) from tN (k := 2) (by decide) (by decide) g)]
  · rw [if_neg (show ¬ nI (fN (iU (m_ins τ)) 24 8) = (155 : Int32) from tN (k := 155) (by decide) (by decide) h)]
theorem sk313 {τ : MS} (h1 : fN (iU (m_ins τ)) 21 10 ≠ 214) (h2 : fN (iU (m_ins τ)) 16 15 ≠ 23232) (h3 : fN (iU (m_ins τ)) 26 5 ≠ 5) (h4 : fN (iU (m_ins τ)) 24 8 ≠ 84 ∨ (iU (m_ins τ)).testBit 4 = true) : F_X12_does_c313 τ = F_X12_does_c433 τ := by
  unfold F_X12_does_c313
  rw [fL_30_21, Option.bind_some, if_neg (show ¬ nI (fN (iU (m_ins τ)) 21 10) = (214 : Int32) from tN (k := 214) (by decide) (by decide) h1), fL_30_16, Option.bind_some, if_neg (show ¬ nI (fN (iU (m_ins τ)) 16 15) = (23232 : Int32) from tN (k := 23232) (by decide) (by decide) h2), fL_30_26, Option.bind_some, if_neg (show ¬ nI (fN (iU (m_ins τ)) 26 5) = (5 : Int32) from tN (k := 5) (by decide) (by decide) h3), fL_31_24, Option.bind_some]
  by_cases h : fN (iU (m_ins τ)) 24 8 = 84
  · rw [if_pos (show nI (fN (iU (m_ins τ)) 24 8) = (84 : Int32) from tY h), oL_4, h4.resolve_left (fun q => q h), iff_t]
  · rw [if_neg (show ¬ nI (fN (iU (m_ins τ)) 24 8) = (84 : Int32) from tN (k := 84) (by decide) (by decide) h)]
theorem sk433 {τ : MS} (h1 : fN (iU (m_ins τ)) 25 6 ≠ 26) (h2 : fN (iU (m_ins τ)) 25 6 ≠ 27) (h3 : fN (iU (m_ins τ)) 23 9 ≠ 428 ∨ fN (iU (m_ins τ)) 10 11 ≠ 1984 ∨ fN (iU (m_ins τ)) 0 5 ≠ 0) : F_X12_does_c433 τ = F_X12_does_c517 τ := by
  unfold F_X12_does_c433
  rw [fL_30_25, Option.bind_some, if_neg (show ¬ nI (fN (iU (m_ins τ)) 25 6) = (26 : Int32) from tN (k := 26) (by decide) (by decide) h1), Option.bind_some, if_neg (show ¬ nI (fN (iU (m_ins τ)) 25 6) = (27 : Int32) from tN (k := 27) (by decide) (by decide) h2), fL_31_23, Option.bind_some]
  by_cases h : fN (iU (m_ins τ)) 23 9 = 428
  · rw [if_pos (show nI (fN (iU (m_ins τ)) 23 9) = (428 : Int32) from tY h), fL_20_10, Option.bind_some]
    by_cases g : fN (iU (m_ins τ)) 10 11 = 1984
    · rw [if_pos (show nI (fN (iU (m_ins τ)) 10 11) = (1984 : Int32) from tY g), fL_4_0, Option.bind_some, if_neg (show ¬ nI (fN (iU (m_ins τ)) 0 5) = (0 : Int32) from tN (k := 0) (by decide) (by decide) ((h3.resolve_left (fun q => q h)).resolve_left (fun q => q g)))]
    · rw [if_neg (show ¬ nI (fN (iU (m_ins τ)) 10 11) = (1984 : Int32) from tN (k := 1984) (by decide) (by decide) g)]
  · rw [if_neg (show ¬ nI (fN (iU (m_ins τ)) 23 9) = (428 : Int32) from tN (k := 428) (by decide) (by decide) h)]
theorem sk517 {τ : MS} (h1 : fN (iU (m_ins τ)) 24 6 ≠ 57) (h2 : fN (iU (m_ins τ)) 24 6 ≠ 56) (h3 : fN (iU (m_ins τ)) 25 5 ≠ 20) (h4 : fN (iU (m_ins τ)) 24 6 ≠ 24 ∨ (iU (m_ins τ)).testBit 31 = true) : F_X12_does_c517 τ = F_X12_does_c599 τ := by
  unfold F_X12_does_c517
  rw [fL_29_24, Option.bind_some, if_neg (show ¬ nI (fN (iU (m_ins τ)) 24 6) = (57 : Int32) from tN (k := 57) (by decide) (by decide) h1), Option.bind_some, if_neg (show ¬ nI (fN (iU (m_ins τ)) 24 6) = (56 : Int32) from tN (k := 56) (by decide) (by decide) h2), fL_29_25, Option.bind_some, if_neg (show ¬ nI (fN (iU (m_ins τ)) 25 5) = (20 : Int32) from tN (k := 20) (by decide) (by decide) h3), Option.bind_some]
  by_cases h : fN (iU (m_ins τ)) 24 6 = 24
  · rw [if_pos (show nI (fN (iU (m_ins τ)) 24 6) = (24 : Int32) from tY h), oL_31, h4.resolve_left (fun q => q h), iff_t]
  · rw [if_neg (show ¬ nI (fN (iU (m_ins τ)) 24 6) = (24 : Int32) from tN (k := 24) (by decide) (by decide) h)]
theorem sk599 {τ : MS} (h3 : fN (iU (m_ins τ)) 21 11 ≠ 1696 ∨ fN (iU (m_ins τ)) 0 5 ≠ 1) : F_X12_does_c599 τ = F_X12_does_c650 τ := by
  unfold F_X12_does_c599
  rw [fL_31_21, Option.bind_some]
  by_cases h : fN (iU (m_ins τ)) 21 11 = 1696
  · rw [if_pos (show nI (fN (iU (m_ins τ)) 21 11) = (1696 : Int32) from tY h), fL_4_0, Option.bind_some, if_neg (show ¬ nI (fN (iU (m_ins τ)) 0 5) = (1 : Int32) from tN (k := 1) (by decide) (by decide) (h3.resolve_left (fun q => q h)))]
  · rw [if_neg (show ¬ nI (fN (iU (m_ins τ)) 21 11) = (1696 : Int32) from tN (k := 1696) (by decide) (by decide) h)]
theorem sk650 {τ : MS} (h3 : fN (iU (m_ins τ)) 21 11 ≠ 1697 ∨ fN (iU (m_ins τ)) 0 5 ≠ 0) : F_X12_does_c650 τ = F_X12_does_c696 τ := by
  unfold F_X12_does_c650
  rw [fL_31_21, Option.bind_some]
  by_cases h : fN (iU (m_ins τ)) 21 11 = 1697
  · rw [if_pos (show nI (fN (iU (m_ins τ)) 21 11) = (1697 : Int32) from tY h), fL_4_0, Option.bind_some, if_neg (show ¬ nI (fN (iU (m_ins τ)) 0 5) = (0 : Int32) from tN (k := 0) (by decide) (by decide) (h3.resolve_left (fun q => q h)))]
  · rw [if_neg (show ¬ nI (fN (iU (m_ins τ)) 21 11) = (1697 : Int32) from tN (k := 1697) (by decide) (by decide) h)]
theorem sk696 {τ : MS} (h3 : fN (iU (m_ins τ)) 13 19 ≠ 436249 ∨ fN (iU (m_ins τ)) 0 5 ≠ 31) : F_X12_does_c696 τ = F_X12_does_c729 τ := by
  unfold F_X12_does_c696
  rw [fL_31_13, Option.bind_some]
  by_cases h : fN (iU (m_ins τ)) 13 19 = 436249
  · rw [if_pos (show nI (fN (iU (m_ins τ)) 13 19) = (436249 : Int32) from tY h), fL_4_0, Option.bind_some, if_neg (show ¬ nI (fN (iU (m_ins τ)) 0 5) = (31 : Int32) from tN (k := 31) (by decide) (by decide) (h3.resolve_left (fun q => q h)))]
  · rw [if_neg (show ¬ nI (fN (iU (m_ins τ)) 13 19) = (436249 : Int32) from tN (k := 436249) (by decide) (by decide) h)]
theorem sk729 {τ : MS} (h3 : fN (iU (m_ins τ)) 16 16 ≠ 54943 ∨ fN (iU (m_ins τ)) 0 16 ≠ 992) : F_X12_does_c729 τ = F_X12_does_c763 τ := by
  unfold F_X12_does_c729
  rw [fL_31_16, Option.bind_some]
  by_cases h : fN (iU (m_ins τ)) 16 16 = 54943
  · rw [if_pos (show nI (fN (iU (m_ins τ)) 16 16) = (54943 : Int32) from tY h), fL_15_0, Option.bind_some, if_neg (show ¬ nI (fN (iU (m_ins τ)) 0 16) = (992 : Int32) from tN (k := 992) (by decide) (by decide) (h3.resolve_left (fun q => q h)))]
  · rw [if_neg (show ¬ nI (fN (iU (m_ins τ)) 16 16) = (54943 : Int32) from tN (k := 54943) (by decide) (by decide) h)]
theorem sk763 {τ : MS} (h3 : fN (iU (m_ins τ)) 22 10 ≠ 852 ∨ fN (iU (m_ins τ)) 19 2 ≠ 3) : F_X12_does_c763 τ = F_X12_does_c796 τ := by
  unfold F_X12_does_c763
  rw [fL_31_22, Option.bind_some]
  by_cases h : fN (iU (m_ins τ)) 22 10 = 852
  · rw [if_pos (show nI (fN (iU (m_ins τ)) 22 10) = (852 : Int32) from tY h), fL_20_19, Option.bind_some, if_neg (show ¬ nI (fN (iU (m_ins τ)) 19 2) = (3 : Int32) from tN (k := 3) (by decide) (by decide) (h3.resolve_left (fun q => q h)))]
  · rw [if_neg (show ¬ nI (fN (iU (m_ins τ)) 22 10) = (852 : Int32) from tN (k := 852) (by decide) (by decide) h)]
theorem sk796 {τ : MS} (h2 : fN (iU (m_ins τ)) 19 13 ≠ 6816 ∨ fN (iU (m_ins τ)) 12 4 ≠ 4 ∨ fN (iU (m_ins τ)) 0 5 ≠ 31) : F_X12_does_c796 τ = some (F_X12_none τ) := by
  unfold F_X12_does_c796 F_X12_does_c840
  rw [fL_31_19, Option.bind_some]
  by_cases h : fN (iU (m_ins τ)) 19 13 = 6816
  · rw [if_pos (show nI (fN (iU (m_ins τ)) 19 13) = (6816 : Int32) from tY h), fL_15_12, Option.bind_some]
    by_cases g : fN (iU (m_ins τ)) 12 4 = 4
    · rw [if_pos (show nI (fN (iU (m_ins τ)) 12 4) = (4 : Int32) from tY g), fL_4_0, Option.bind_some, if_neg (show ¬ nI (fN (iU (m_ins τ)) 0 5) = (31 : Int32) from tN (k := 31) (by decide) (by decide) ((h2.resolve_left (fun q => q h)).resolve_left (fun q => q g)))]
    · rw [if_neg (show ¬ nI (fN (iU (m_ins τ)) 12 4) = (4 : Int32) from tN (k := 4) (by decide) (by decide) g)]
  · rw [if_neg (show ¬ nI (fN (iU (m_ins τ)) 19 13) = (6816 : Int32) from tN (k := 6816) (by decide) (by decide) h)]
