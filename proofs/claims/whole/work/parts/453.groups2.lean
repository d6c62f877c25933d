theorem d_24 {τ : MS} {pc : Int64} (t0 : Int32) (h : Ok τ pc) (hg : fN (iU (m_ins τ)) 24 5 = 24) : Perf τ pc t0 := by
  have f3 : fN (iU (m_ins τ)) 26 3 = 6 := imp hg 2 3 (by decide)
  have f4 : fN (iU (m_ins τ)) 25 4 = 12 := imp hg 1 4 (by decide)
  have hs : F_X12_does τ = F_X12_does_c517 τ := by
    rw [to_178 (show fN (iU (m_ins τ)) 24 5 ≠ 10 by rw [hg]; decide) (show fN (iU (m_ins τ)) 24 5 ≠ 11 by rw [hg]; decide) (by rw [f3]; decide), to_517 (show fN (iU (m_ins τ)) 24 5 ≠ 26 by rw [hg]; decide) (show fN (iU (m_ins τ)) 24 5 ≠ 27 by rw [hg]; decide) (by rw [f3]; decide)]
  have n20 : fN (iU (m_ins τ)) 25 5 ≠ 20 := imp_ne 0 4 (by decide) (by rw [f4]; decide)
  have ht : fN (iU (m_ins τ)) 24 5 ≠ 20 ∧ fN (iU (m_ins τ)) 24 5 ≠ 21 ∧ fN (iU (m_ins τ)) 24 5 ≠ 22 ∨ fN (iU (m_ins τ)) 29 2 ≠ 2 := Or.inl ⟨(show fN (iU (m_ins τ)) 24 5 ≠ 20 by rw [hg]; decide), (show fN (iU (m_ins τ)) 24 5 ≠ 21 by rw [hg]; decide), (show fN (iU (m_ins τ)) 24 5 ≠ 22 by rw [hg]; decide)⟩
  unfold Perf F_X6_performs
  rw [xO_xm, sel24, hg, if_neg (show ¬ nI 24 = (8 : Int32) by decide), if_neg (show ¬ nI 24 = (9 : Int32) by decide), if_neg (show ¬ nI 24 = (10 : Int32) by decide), if_neg (show ¬ nI 24 = (11 : Int32) by decide), if_neg (show ¬ nI 24 = (16 : Int32) by decide), if_neg (show ¬ nI 24 = (17 : Int32) by decide), if_neg (show ¬ nI 24 = (18 : Int32) by decide), if_neg (show ¬ nI 24 = (19 : Int32) by decide), if_neg (show ¬ nI 24 = (20 : Int32) by decide), if_neg (show ¬ nI 24 = (21 : Int32) by decide), if_neg (show ¬ nI 24 = (22 : Int32) by decide), if_neg (show ¬ nI 24 = (23 : Int32) by decide), if_pos (show nI 24 = (24 : Int32) from rfl), pL_29, hs]
  cases h29 : (iU (m_ins τ)).testBit 29
  · have b29 := bit_of h29
    have n57 : fN (iU (m_ins τ)) 24 6 ≠ 57 := imp_ne 5 1 (by decide) (by rw [b29]; decide)
    have n56 : fN (iU (m_ins τ)) 24 6 ≠ 56 := imp_ne 5 1 (by decide) (by rw [b29]; decide)
    rw [iff_f]
    have e24 : fN (iU (m_ins τ)) 24 6 = 24 := by
      clear f3 f4 hs n20 ht n57 n56
      unfold fN at *
      simp only [Bool.toNat_false] at b29
      omega
    rw [bse]
    cases h31 : (iU (m_ins τ)).testBit 31
    · unfold F_X12_does_c517
      rw [fL_29_24, Option.bind_some, if_neg (show ¬ nI (fN (iU (m_ins τ)) 24 6) = (57 : Int32) from tN (k := 57) (by decide) (by decide) n57), Option.bind_some, if_neg (show ¬ nI (fN (iU (m_ins τ)) 24 6) = (56 : Int32) from tN (k := 56) (by decide) (by decide) n56), fL_29_25, Option.bind_some, if_neg (show ¬ nI (fN (iU (m_ins τ)) 25 5) = (20 : Int32) from tN (k := 20) (by decide) (by decide) n20), Option.bind_some, if_pos (show nI (fN (iU (m_ins τ)) 24 6) = (24 : Int32) from tY e24), oL_31, h31, iff_f, bs]
      exact i_near t0 h h31
    · rw [none_517 ht n57 n56 n20 (Or.inr h31)]
      unfold F_X0_near
      rw [if_neg (fun q => by rw [(nneg_iff _).mp q] at h31; cases h31)]
      exact ⟨_, rfl, Res.none h rfl rfl⟩
  · have b29 := bit_of h29
    have e24 : fN (iU (m_ins τ)) 24 6 = 56 := by
      clear f3 f4 hs n20 ht
      unfold fN at *
      simp only [Bool.toNat_true] at b29
      omega
    rw [iff_t]
    unfold F_X12_does_c517 F_X12_does_c543
    rw [fL_29_24, Option.bind_some, if_neg (show ¬ nI (fN (iU (m_ins τ)) 24 6) = (57 : Int32) from tN (k := 57) (by decide) (by decide) (by rw [e24]; decide)), Option.bind_some, if_pos (show nI (fN (iU (m_ins τ)) 24 6) = (56 : Int32) from tY e24), bs, bse]
    exact i_single t0 h
theorem d_25 {τ : MS} {pc : Int64} (t0 : Int32) (h : Ok τ pc) (hg : fN (iU (m_ins τ)) 24 5 = 25) : Perf τ pc t0 := by
  have f3 : fN (iU (m_ins τ)) 26 3 = 6 := imp hg 2 3 (by decide)
  have f4 : fN (iU (m_ins τ)) 25 4 = 12 := imp hg 1 4 (by decide)
  have hs : F_X12_does τ = F_X12_does_c517 τ := by
    rw [to_178 (show fN (iU (m_ins τ)) 24 5 ≠ 10 by rw [hg]; decide) (show fN (iU (m_ins τ)) 24 5 ≠ 11 by rw [hg]; decide) (by rw [f3]; decide), to_517 (show fN (iU (m_ins τ)) 24 5 ≠ 26 by rw [hg]; decide) (show fN (iU (m_ins τ)) 24 5 ≠ 27 by rw [hg]; decide) (by rw [f3]; decide)]
  have n20 : fN (iU (m_ins τ)) 25 5 ≠ 20 := imp_ne 0 4 (by decide) (by rw [f4]; decide)
  have ht : fN (iU (m_ins τ)) 24 5 ≠ 20 ∧ fN (iU (m_ins τ)) 24 5 ≠ 21 ∧ fN (iU (m_ins τ)) 24 5 ≠ 22 ∨ fN (iU (m_ins τ)) 29 2 ≠ 2 := Or.inl ⟨(show fN (iU (m_ins τ)) 24 5 ≠ 20 by rw [hg]; decide), (show fN (iU (m_ins τ)) 24 5 ≠ 21 by rw [hg]; decide), (show fN (iU (m_ins τ)) 24 5 ≠ 22 by rw [hg]; decide)⟩
  unfold Perf F_X6_performs
  rw [xO_xm, sel24, hg, if_neg (show ¬ nI 25 = (8 : Int32) by decide), if_neg (show ¬ nI 25 = (9 : Int32) by decide), if_neg (show ¬ nI 25 = (10 : Int32) by decide), if_neg (show ¬ nI 25 = (11 : Int32) by decide), if_neg (show ¬ nI 25 = (16 : Int32) by decide), if_neg (show ¬ nI 25 = (17 : Int32) by decide), if_neg (show ¬ nI 25 = (18 : Int32) by decide), if_neg (show ¬ nI 25 = (19 : Int32) by decide), if_neg (show ¬ nI 25 = (20 : Int32) by decide), if_neg (show ¬ nI 25 = (21 : Int32) by decide), if_neg (show ¬ nI 25 = (22 : Int32) by decide), if_neg (show ¬ nI 25 = (23 : Int32) by decide), if_neg (show ¬ nI 25 = (24 : Int32) by decide), if_pos (show nI 25 = (25 : Int32) from rfl), pL_29, hs]
  cases h29 : (iU (m_ins τ)).testBit 29
  · have b29 := bit_of h29
    have n57 : fN (iU (m_ins τ)) 24 6 ≠ 57 := imp_ne 5 1 (by decide) (by rw [b29]; decide)
    have n56 : fN (iU (m_ins τ)) 24 6 ≠ 56 := imp_ne 5 1 (by decide) (by rw [b29]; decide)
    rw [iff_f]
    rw [none_517 ht n57 n56 n20 (Or.inl (imp_ne 0 5 (by decide) (show fN (iU (m_ins τ)) 24 5 ≠ 24 by rw [hg]; decide)))]
    exact ⟨_, rfl, Res.none h rfl rfl⟩
  · have b29 := bit_of h29
    have e24 : fN (iU (m_ins τ)) 24 6 = 57 := by
      clear f3 f4 hs n20 ht
      unfold fN at *
      simp only [Bool.toNat_true] at b29
      omega
    rw [iff_t]
    unfold F_X12_does_c517 F_X12_does_c543
    rw [fL_29_24, Option.bind_some, if_pos (show nI (fN (iU (m_ins τ)) 24 6) = (57 : Int32) from tY e24), bs]
    obtain ⟨x, hx, hr⟩ := i_single t0 h
    rw [hx, Option.bind_some]
    refine ⟨x, ?_, hr⟩
    obtain ⟨x1, x2⟩ := x
    cases x1 <;> rfl
theorem none26 {τ : MS} (hg : fN (iU (m_ins τ)) 24 5 = 26) (h1 : fN (iU (m_ins τ)) 21 10 ≠ 214) (h2 : fN (iU (m_ins τ)) 16 15 ≠ 23232) : F_X12_does_c246 τ = some (F_X12_none τ) := by
  have f3 : fN (iU (m_ins τ)) 26 3 = 6 := imp hg 2 3 (by decide)
  have f4 : fN (iU (m_ins τ)) 25 4 = 13 := imp hg 1 4 (by decide)
  rw [sk246 (imp_ne 3 5 (by decide) (show fN (iU (m_ins τ)) 24 5 ≠ 27 by rw [hg]; decide)) (Or.inl (imp_ne 0 5 (by decide) (show fN (iU (m_ins τ)) 24 5 ≠ 27 by rw [hg]; decide))), sk313 h1 h2 (imp_ne 0 3 (by decide) (by rw [f3]; decide)) (Or.inl (imp_ne 0 5 (by decide) (show fN (iU (m_ins τ)) 24 5 ≠ 20 by rw [hg]; decide))), sk433 (imp_ne 1 3 (by decide) (by rw [f3]; decide)) (imp_ne 1 3 (by decide) (by rw [f3]; decide)) (Or.inl (imp_ne 1 5 (by decide) (show fN (iU (m_ins τ)) 24 5 ≠ 22 by rw [hg]; decide))), none_517 (Or.inl ⟨(show fN (iU (m_ins τ)) 24 5 ≠ 20 by rw [hg]; decide), (show fN (iU (m_ins τ)) 24 5 ≠ 21 by rw [hg]; decide), (show fN (iU (m_ins τ)) 24 5 ≠ 22 by rw [hg]; decide)⟩) (imp_ne 0 5 (by decide) (show fN (iU (m_ins τ)) 24 5 ≠ 25 by rw [hg]; decide)) (imp_ne 0 5 (by decide) (show fN (iU (m_ins τ)) 24 5 ≠ 24 by rw [hg]; decide)) (imp_ne 0 4 (by decide) (by rw [f4]; decide)) (Or.inl (imp_ne 0 5 (by decide) (show fN (iU (m_ins τ)) 24 5 ≠ 24 by rw [hg]; decide)))]
theorem d_26 {τ : MS} {pc : Int64} (t0 : Int32) (h : Ok τ pc) (hg : fN (iU (m_ins τ)) 24 5 = 26) : Perf τ pc t0 := by
  have f3 : fN (iU (m_ins τ)) 26 3 = 6 := imp hg 2 3 (by decide)
  have hs : F_X12_does τ = F_X12_does_c178 τ := to_178 (show fN (iU (m_ins τ)) 24 5 ≠ 10 by rw [hg]; decide) (show fN (iU (m_ins τ)) 24 5 ≠ 11 by rw [hg]; decide) (by rw [f3]; decide)
  unfold Perf F_X6_performs
  rw [xO_xm, sel24, hg, if_neg (show ¬ nI 26 = (8 : Int32) by decide), if_neg (show ¬ nI 26 = (9 : Int32) by decide), if_neg (show ¬ nI 26 = (10 : Int32) by decide), if_neg (show ¬ nI 26 = (11 : Int32) by decide), if_neg (show ¬ nI 26 = (16 : Int32) by decide), if_neg (show ¬ nI 26 = (17 : Int32) by decide), if_neg (show ¬ nI 26 = (18 : Int32) by decide), if_neg (show ¬ nI 26 = (19 : Int32) by decide), if_neg (show ¬ nI 26 = (20 : Int32) by decide), if_neg (show ¬ nI 26 = (21 : Int32) by decide), if_neg (show ¬ nI 26 = (22 : Int32) by decide), if_neg (show ¬ nI 26 = (23 : Int32) by decide), if_neg (show ¬ nI 26 = (24 : Int32) by decide), if_neg (show ¬ nI 26 = (25 : Int32) by decide), if_pos (show nI 26 = (26 : Int32) from rfl), hs]
  refine ⟨_, rfl, ?_⟩
  unfold F_X6_performsRegisters
  rw [xO_xm, sel21]
  by_cases h210 : fN (iU (m_ins τ)) 21 8 = 210
  · have n212 : fN (iU (m_ins τ)) 21 9 ≠ 212 := imp_ne 0 8 (by decide) (by rw [h210]; decide)
    have n214 : fN (iU (m_ins τ)) 21 10 ≠ 214 := imp_ne 0 8 (by decide) (by rw [h210]; decide)
    have n23 : fN (iU (m_ins τ)) 16 15 ≠ 23232 := imp_ne 5 8 (by decide) (by rw [h210]; decide)
    rw [if_pos (show nI (fN (iU (m_ins τ)) 21 8) = (210 : Int32) from tY h210), sk178 (Or.inl n212)]
    cases h29 : (iU (m_ins τ)).testBit 29
    · have b29 := bit_of h29
      rw [sk208 (Or.inl (imp_ne 8 1 (by decide) (by rw [b29]; decide))), none26 hg n214 n23]
      refine Res.none h rfl ?_
      unfold F_X7_compare
      rw [pL_29, h29, iff_f]
    · have b29 := bit_of h29
      have e466 : fN (iU (m_ins τ)) 21 9 = 466 := by
        clear f3 hs n212 n214 n23 hg
        unfold fN at *
        simp only [Bool.toNat_true] at b29
        omega
      cases h10 : (iU (m_ins τ)).testBit 10
      · cases h4 : (iU (m_ins τ)).testBit 4
        · unfold F_X12_does_c208
          rw [fL_29_21, Option.bind_some, if_pos (show nI (fN (iU (m_ins τ)) 21 9) = (466 : Int32) from tY e466), oL_10, h10, iff_f, oL_4, h4, iff_f, bs]
          exact i_compare t0 h h29 h10 h4
        · rw [sk208 (Or.inr (Or.inr h4)), none26 hg n214 n23]
          refine Res.none h rfl ?_
          unfold F_X7_compare
          rw [pL_29, h29, iff_t, pL_10, h10, iff_f, pL_4, h4, iff_t]
      · rw [sk208 (Or.inr (Or.inl h10)), none26 hg n214 n23]
        refine Res.none h rfl ?_
        unfold F_X7_compare
        rw [pL_29, h29, iff_t, pL_10, h10, iff_t]
  · rw [if_neg (show ¬ nI (fN (iU (m_ins τ)) 21 8) = (210 : Int32) from tN (k := 210) (by decide) (by decide) h210)]
    have n466 : fN (iU (m_ins τ)) 21 9 ≠ 466 := imp_ne 0 8 (by decide) h210
    by_cases h212 : fN (iU (m_ins τ)) 21 8 = 212
    · have n214 : fN (iU (m_ins τ)) 21 10 ≠ 214 := imp_ne 0 8 (by decide) (by rw [h212]; decide)
      have n23 : fN (iU (m_ins τ)) 16 15 ≠ 23232 := imp_ne 5 8 (by decide) (by rw [h212]; decide)
      rw [if_pos (show nI (fN (iU (m_ins τ)) 21 8) = (212 : Int32) from tY h212)]
      cases h29 : (iU (m_ins τ)).testBit 29
      · have b29 := bit_of h29
        have e212 : fN (iU (m_ins τ)) 21 9 = 212 := by
          clear f3 hs n466 n214 n23 hg h210
          unfold fN at *
          simp only [Bool.toNat_false] at b29
          omega
        cases h11 : (iU (m_ins τ)).testBit 11
        · unfold F_X12_does_c178
          rw [fL_29_21, Option.bind_some, if_pos (show nI (fN (iU (m_ins τ)) 21 9) = (212 : Int32) from tY e212), oL_11, h11, iff_f, bs]
          exact i_choose t0 h h29 h11
        · rw [sk178 (Or.inr h11), sk208 (Or.inl n466), none26 hg n214 n23]
          refine Res.none h rfl ?_
          unfold F_X7_choose
          rw [pL_29, h29, iff_f, pL_11, h11, iff_t]
      · have b29 := bit_of h29
        rw [sk178 (Or.inl (imp_ne 8 1 (by decide) (by rw [b29]; decide))), sk208 (Or.inl n466), none26 hg n214 n23]
        refine Res.none h rfl ?_
        unfold F_X7_choose
        rw [pL_29, h29, iff_t]
    · rw [if_neg (show ¬ nI (fN (iU (m_ins τ)) 21 8) = (212 : Int32) from tN (k := 212) (by decide) (by decide) h212), sk178 (Or.inl (imp_ne 0 8 (by decide) h212)), sk208 (Or.inl n466)]
      by_cases h214 : fN (iU (m_ins τ)) 21 8 = 214
      · rw [if_pos (show nI (fN (iU (m_ins τ)) 21 8) = (214 : Int32) from tY h214), pL_30]
        cases h29 : (iU (m_ins τ)).testBit 29
        · have b29 := bit_of h29
          cases h30 : (iU (m_ins τ)).testBit 30
          · have b30 := bit_of h30
            have e214 : fN (iU (m_ins τ)) 21 10 = 214 := by
              clear f3 hs n466 hg h210 h212
              unfold fN at *
              simp only [Bool.toNat_false] at b29 b30
              omega
            rw [iff_f, sk246 (by rw [e214]; decide) (Or.inl (imp_ne 0 5 (by decide) (show fN (iU (m_ins τ)) 24 5 ≠ 27 by rw [hg]; decide)))]
            unfold F_X12_does_c313
            rw [fL_30_21, Option.bind_some, if_pos (show nI (fN (iU (m_ins τ)) 21 10) = (214 : Int32) from tY e214), bs]
            exact i_two t0 h h29
          · have b30 := bit_of h30
            have n214 : fN (iU (m_ins τ)) 21 10 ≠ 214 := imp_ne 9 1 (by decide) (by rw [b30]; decide)
            rw [iff_t]
            by_cases h16 : fN (iU (m_ins τ)) 16 5 = 0
            · have e23 : fN (iU (m_ins τ)) 16 15 = 23232 := by
                clear f3 hs n466 hg h210 h212 n214
                unfold fN at *
                simp only [Bool.toNat_false] at b29
                simp only [Bool.toNat_true] at b30
                omega
              rw [sk246 (imp_ne 3 5 (by decide) (show fN (iU (m_ins τ)) 24 5 ≠ 27 by rw [hg]; decide)) (Or.inl (imp_ne 0 5 (by decide) (show fN (iU (m_ins τ)) 24 5 ≠ 27 by rw [hg]; decide)))]
              unfold F_X12_does_c313
              rw [fL_30_21, Option.bind_some, if_neg (show ¬ nI (fN (iU (m_ins τ)) 21 10) = (214 : Int32) from tN (k := 214) (by decide) (by decide) n214), fL_30_16, Option.bind_some, if_pos (show nI (fN (iU (m_ins τ)) 16 15) = (23232 : Int32) from tY e23), bs]
              exact i_one t0 h h29 h16
            · rw [none26 hg n214 (imp_ne 0 5 (by decide) h16)]
              refine Res.none h rfl ?_
              unfold F_X7_one F_X7_one_c9
              rw [pL_29, h29, iff_f, iff_f, gL_16_5, if_neg (show ¬ nI (fN (iU (m_ins τ)) 16 5) = (0 : Int32) from tN (k := 0) (by decide) (by decide) h16), if_neg (show ¬ nI (fN (iU (m_ins τ)) 16 5) = (0 : Int32) from tN (k := 0) (by decide) (by decide) h16)]
              split <;> rfl
        · have b29 := bit_of h29
          rw [none26 hg (imp_ne 8 1 (by decide) (by rw [b29]; decide)) (imp_ne 13 1 (by decide) (by rw [b29]; decide))]
          refine Res.none h rfl ?_
          cases (iU (m_ins τ)).testBit 30
          · rw [iff_f]
            unfold F_X7_two F_X7_two_c9 F_X7_two_c19
            rw [pL_29, h29, iff_t, iff_t]
            split <;> rfl
          · rw [iff_t]
            unfold F_X7_one F_X7_one_c9
            rw [pL_29, h29, iff_t]
            split <;> rfl
      · rw [if_neg (show ¬ nI (fN (iU (m_ins τ)) 21 8) = (214 : Int32) from tN (k := 214) (by decide) (by decide) h214), none26 hg (imp_ne 0 8 (by decide) h214) (imp_ne 5 8 (by decide) h214)]
        exact Res.none h rfl rfl
theorem d_27 {τ : MS} {pc : Int64} (t0 : Int32) (h : Ok τ pc) (hg : fN (iU (m_ins τ)) 24 5 = 27) : Perf τ pc t0 := by
  have f3 : fN (iU (m_ins τ)) 26 3 = 6 := imp hg 2 3 (by decide)
  have f4 : fN (iU (m_ins τ)) 25 4 = 13 := imp hg 1 4 (by decide)
  have hs : F_X12_does τ = F_X12_does_c246 τ := by
    rw [to_178 (show fN (iU (m_ins τ)) 24 5 ≠ 10 by rw [hg]; decide) (show fN (iU (m_ins τ)) 24 5 ≠ 11 by rw [hg]; decide) (by rw [f3]; decide), sk178 (Or.inl (imp_ne 3 5 (by decide) (show fN (iU (m_ins τ)) 24 5 ≠ 26 by rw [hg]; decide))), sk208 (Or.inl (imp_ne 3 5 (by decide) (show fN (iU (m_ins τ)) 24 5 ≠ 26 by rw [hg]; decide)))]
  unfold Perf F_X6_performs
  rw [xO_xm, sel24, hg, if_neg (show ¬ nI 27 = (8 : Int32) by decide), if_neg (show ¬ nI 27 = (9 : Int32) by decide), if_neg (show ¬ nI 27 = (10 : Int32) by decide), if_neg (show ¬ nI 27 = (11 : Int32) by decide), if_neg (show ¬ nI 27 = (16 : Int32) by decide), if_neg (show ¬ nI 27 = (17 : Int32) by decide), if_neg (show ¬ nI 27 = (18 : Int32) by decide), if_neg (show ¬ nI 27 = (19 : Int32) by decide), if_neg (show ¬ nI 27 = (20 : Int32) by decide), if_neg (show ¬ nI 27 = (21 : Int32) by decide), if_neg (show ¬ nI 27 = (22 : Int32) by decide), if_neg (show ¬ nI 27 = (23 : Int32) by decide), if_neg (show ¬ nI 27 = (24 : Int32) by decide), if_neg (show ¬ nI 27 = (25 : Int32) by decide), if_neg (show ¬ nI 27 = (26 : Int32) by decide), if_pos (show nI 27 = (27 : Int32) from rfl), hs]
  by_cases h216 : fN (iU (m_ins τ)) 21 10 = 216
  · have hM : F_X12_does_c246 τ = F_X12_times τ := by
      unfold F_X12_does_c246
      rw [fL_30_21, Option.bind_some, if_pos (show nI (fN (iU (m_ins τ)) 21 10) = (216 : Int32) from tY h216), bs]
    rw [hM]
    obtain ⟨τ', a1, a2, a3⟩ := i_times t0 h h216
    rcases a3 with a3 | ⟨a3, a4⟩
    · rw [a3]
      exact ⟨_, rfl, τ', a1, a2, Or.inl rfl⟩
    · have n2 : fN (iU (m_ins τ)) 21 2 ≠ 2 := by
        have := imp h216 0 2 (by decide)
        rw [Nat.add_zero] at this
        rw [this]
        decide
      have hu : F_X7_upperTimes (xm τ pc t0) (m_ins τ) = (false, xm τ pc t0) := by
        unfold F_X7_upperTimes
        rw [gL_21_2, if_neg (show ¬ nI (fN (iU (m_ins τ)) 21 2) = (2 : Int32) from tN (k := 2) (by decide) (by decide) n2)]
        split <;> rfl
      rw [a3]
      dsimp only
      rw [iff_f, xO_xm, hu]
      exact ⟨_, rfl, τ', a1, a2, Or.inr ⟨rfl, a4⟩⟩
  · have hti : F_X7_times (xm τ pc t0) (m_ins τ) = (false, xm τ pc t0) := by
      unfold F_X7_times
      rw [gL_21_10, if_neg (show ¬ nI (fN (iU (m_ins τ)) 21 10) = (216 : Int32) from tN (k := 216) (by decide) (by decide) h216)]
    rw [hti]
    dsimp only
    rw [iff_f, xO_xm]
    by_cases hh : fN (iU (m_ins τ)) 24 8 = 155 ∧ fN (iU (m_ins τ)) 21 2 = 2 ∧ fN (iU (m_ins τ)) 10 6 = 31
    · have hM : F_X12_does_c246 τ = F_X12_highOf τ := by
        unfold F_X12_does_c246
        rw [fL_30_21, Option.bind_some, if_neg (show ¬ nI (fN (iU (m_ins τ)) 21 10) = (216 : Int32) from tN (k := 216) (by decide) (by decide) h216), fL_31_24, Option.bind_some, if_pos (show nI (fN (iU (m_ins τ)) 24 8) = (155 : Int32) from tY hh.1), fL_22_21, Option.bind_some, if_pos (show nI (fN (iU (m_ins τ)) 21 2) = (2 : Int32) from tY hh.2.1), fL_15_10, Option.bind_some, if_pos (show nI (fN (iU (m_ins τ)) 10 6) = (31 : Int32) from tY hh.2.2), bs]
      rw [hM]
      obtain ⟨τ', a1, a2, a3⟩ := i_high t0 h hh.1 hh.2.1 hh.2.2
      rcases a3 with a3 | ⟨a3, a4⟩
      · rw [a3]
        exact ⟨_, rfl, τ', a1, a2, Or.inl rfl⟩
      · rw [a3]
        exact ⟨_, rfl, τ', a1, a2, Or.inr ⟨rfl, a4⟩⟩
    · have h2 : fN (iU (m_ins τ)) 24 8 ≠ 155 ∨ fN (iU (m_ins τ)) 21 2 ≠ 2 ∨ fN (iU (m_ins τ)) 10 6 ≠ 31 := by
        by_cases e1 : fN (iU (m_ins τ)) 24 8 = 155
        · by_cases e2 : fN (iU (m_ins τ)) 21 2 = 2
          · exact Or.inr (Or.inr (fun e3 => hh ⟨e1, e2, e3⟩))
          · exact Or.inr (Or.inl e2)
        · exact Or.inl e1
      have hu : F_X7_upperTimes (xm τ pc t0) (m_ins τ) = (false, xm τ pc t0) := by
        unfold F_X7_upperTimes
        rw [show (24 : Int32) = nI 24 from rfl, top23 (c := fN (iU (m_ins τ)) 24 8) rfl (by decide), gL_21_2, gL_10_6]
        by_cases e1 : fN (iU (m_ins τ)) 24 8 = 155
        · by_cases e2 : fN (iU (m_ins τ)) 21 2 = 2
          · rw [if_pos (show nI (fN (iU (m_ins τ)) 24 8) = (155 : Int32) from tY e1), if_pos (show nI (fN (iU (m_ins τ)) 21 2) = (2 : Int32) from tY e2), if_neg (show ¬ nI (fN (iU (m_ins τ)) 10 6) = (31 : Int32) from tN (k := 31) (by decide) (by decide) (fun e3 => hh ⟨e1, e2, e3⟩))]
          · rw [if_pos (show nI (fN (iU (m_ins τ)) 24 8) = (155 : Int32) from tY e1), if_neg (show ¬ nI (fN (iU (m_ins τ)) 21 2) = (2 : Int32) from tN (k := 2) (by decide) (by decide) e2)]
        · rw [if_neg (show ¬ nI (fN (iU (m_ins τ)) 24 8) = (155 : Int32) from tN (k := 155) (by decide) (by decide) e1)]
      rw [hu, sk246 h216 h2, sk313 (imp_ne 3 5 (by decide) (show fN (iU (m_ins τ)) 24 5 ≠ 26 by rw [hg]; decide)) (imp_ne 8 5 (by decide) (show fN (iU (m_ins τ)) 24 5 ≠ 26 by rw [hg]; decide)) (imp_ne 0 3 (by decide) (by rw [f3]; decide)) (Or.inl (imp_ne 0 5 (by decide) (show fN (iU (m_ins τ)) 24 5 ≠ 20 by rw [hg]; decide))), sk433 (imp_ne 1 3 (by decide) (by rw [f3]; decide)) (imp_ne 1 3 (by decide) (by rw [f3]; decide)) (Or.inl (imp_ne 1 5 (by decide) (show fN (iU (m_ins τ)) 24 5 ≠ 22 by rw [hg]; decide))), none_517 (Or.inl ⟨(show fN (iU (m_ins τ)) 24 5 ≠ 20 by rw [hg]; decide), (show fN (iU (m_ins τ)) 24 5 ≠ 21 by rw [hg]; decide), (show fN (iU (m_ins τ)) 24 5 ≠ 22 by rw [hg]; decide)⟩) (imp_ne 0 5 (by decide) (show fN (iU (m_ins τ)) 24 5 ≠ 25 by rw [hg]; decide)) (imp_ne 0 5 (by decide) (show fN (iU (m_ins τ)) 24 5 ≠ 24 by rw [hg]; decide)) (imp_ne 0 4 (by decide) (by rw [f4]; decide)) (Or.inl (imp_ne 0 5 (by decide) (show fN (iU (m_ins τ)) 24 5 ≠ 24 by rw [hg]; decide)))]
      exact ⟨_, rfl, Res.none h rfl rfl⟩
theorem d_else {τ : MS} {pc : Int64} (t0 : Int32) (h : Ok τ pc) (hg : fN (iU (m_ins τ)) 24 5 < 8 ∨ (12 ≤ fN (iU (m_ins τ)) 24 5 ∧ fN (iU (m_ins τ)) 24 5 < 16) ∨ 28 ≤ fN (iU (m_ins τ)) 24 5) : Perf τ pc t0 := by
  have hlt := fN_lt (iU (m_ins τ)) 24 5
  have e3 : fN (fN (iU (m_ins τ)) 24 5) 2 3 = fN (iU (m_ins τ)) 26 3 := fN_sub _ _ _ _ _ (by decide)
  have e4 : fN (fN (iU (m_ins τ)) 24 5) 1 4 = fN (iU (m_ins τ)) 25 4 := fN_sub _ _ _ _ _ (by decide)
  have n4 : fN (iU (m_ins τ)) 26 3 ≠ 4 := by
    rw [← e3]
    generalize fN (iU (m_ins τ)) 24 5 = g at hg hlt
    unfold fN
    omega
  have n5 : fN (iU (m_ins τ)) 26 3 ≠ 5 := by
    rw [← e3]
    generalize fN (iU (m_ins τ)) 24 5 = g at hg hlt
    unfold fN
    omega
  have m4 : fN (iU (m_ins τ)) 25 4 ≠ 4 := by
    rw [← e4]
    generalize fN (iU (m_ins τ)) 24 5 = g at hg hlt
    unfold fN
    omega
  have hM : F_X12_does τ = some (F_X12_none τ) := by
    rw [to_178 (by omega) (by omega) n4, to_517 (by omega) (by omega) n5, none_517 (Or.inl ⟨by omega, by omega, by omega⟩) (imp_ne 0 5 (by decide) (show fN (iU (m_ins τ)) 24 5 ≠ 25 by omega)) (imp_ne 0 5 (by decide) (show fN (iU (m_ins τ)) 24 5 ≠ 24 by omega)) (imp_ne 0 4 (by decide) m4) (Or.inl (imp_ne 0 5 (by decide) (show fN (iU (m_ins τ)) 24 5 ≠ 24 by omega)))]
  unfold Perf F_X6_performs
  rw [xO_xm, sel24, hM, if_neg (show ¬ nI (fN (iU (m_ins τ)) 24 5) = (8 : Int32) from tN (k := 8) (by decide) (by decide) (by omega)), if_neg (show ¬ nI (fN (iU (m_ins τ)) 24 5) = (9 : Int32) from tN (k := 9) (by decide) (by decide) (by omega)), if_neg (show ¬ nI (fN (iU (m_ins τ)) 24 5) = (10 : Int32) from tN (k := 10) (by decide) (by decide) (by omega)), if_neg (show ¬ nI (fN (iU (m_ins τ)) 24 5) = (11 : Int32) from tN (k := 11) (by decide) (by decide) (by omega)), if_neg (show ¬ nI (fN (iU (m_ins τ)) 24 5) = (16 : Int32) from tN (k := 16) (by decide) (by decide) (by omega)), if_neg (show ¬ nI (fN (iU (m_ins τ)) 24 5) = (17 : Int32) from tN (k := 17) (by decide) (by decide) (by omega)), if_neg (show ¬ nI (fN (iU (m_ins τ)) 24 5) = (18 : Int32) from tN (k := 18) (by decide) (by decide) (by omega)), if_neg (show ¬ nI (fN (iU (m_ins τ)) 24 5) = (19 : Int32) from tN (k := 19) (by decide) (by decide) (by omega)), if_neg (show ¬ nI (fN (iU (m_ins τ)) 24 5) = (20 : Int32) from tN (k := 20) (by decide) (by decide) (by omega)), if_neg (show ¬ nI (fN (iU (m_ins τ)) 24 5) = (21 : Int32) from tN (k := 21) (by decide) (by decide) (by omega)), if_neg (show ¬ nI (fN (iU (m_ins τ)) 24 5) = (22 : Int32) from tN (k := 22) (by decide) (by decide) (by omega)), if_neg (show ¬ nI (fN (iU (m_ins τ)) 24 5) = (23 : Int32) from tN (k := 23) (by decide) (by decide) (by omega)), if_neg (show ¬ nI (fN (iU (m_ins τ)) 24 5) = (24 : Int32) from tN (k := 24) (by decide) (by decide) (by omega)), if_neg (show ¬ nI (fN (iU (m_ins τ)) 24 5) = (25 : Int32) from tN (k := 25) (by decide) (by decide) (by omega)), if_neg (show ¬ nI (fN (iU (m_ins τ)) 24 5) = (26 : Int32) from tN (k := 26) (by decide) (by decide) (by omega)), if_neg (show ¬ nI (fN (iU (m_ins τ)) 24 5) = (27 : Int32) from tN (k := 27) (by decide) (by decide) (by omega))]
  exact ⟨_, rfl, Res.none h rfl rfl⟩
